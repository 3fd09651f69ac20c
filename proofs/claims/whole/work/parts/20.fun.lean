section ZFN
/-! java/lang/Long.bitCount (J)I : T, depth 0 -/
abbrev i_J13_bitCount_95d88 : Zm := (yJ13_bitCount_95d88.cls, cJ13_bitCount_95d88, 2, (some .int), [], yJ13_bitCount_95d88.name)
def f_J13_bitCount_95d88 (a0 : Int64) : Int32 :=
  zlet (a0 - ((zlushr a0 (1 : Int32)) &&& (6148914691236517205 : Int64))) fun z1 => zlet ((z1 &&& (3689348814741910323 : Int64)) + ((zlushr z1 (2 : Int32)) &&& (3689348814741910323 : Int64))) fun z2 => zlet ((z2 + (zlushr z2 (4 : Int32))) &&& (1085102592571150095 : Int64)) fun z3 => zlet (z3 + (zlushr z3 (8 : Int32))) fun z4 => zlet (z4 + (zlushr z4 (16 : Int32))) fun z5 => zlet (z5 + (zlushr z5 (32 : Int32))) fun z6 => ((z6).toInt32 &&& (127 : Int32))
theorem mw_J13_bitCount_95d88 {E : ZE} {S : Zs} (hW : zWF S) (w : Zw) (a0 : Int64) : zOk (E, i_J13_bitCount_95d88, 0) 0 0 S w 0 [(0, .long a0)] [] (emP eI S w) (some (f_J13_bitCount_95d88 a0)) := by
  unfold f_J13_bitCount_95d88
  refine z_lload_n 0 dJ13_bitCount_95d88_0 rfl (z_lload_n 0 dJ13_bitCount_95d88_1 rfl (z_iconst dJ13_bitCount_95d88_2 zi_1 (z_lushr (v := (zlushr a0 (1 : Int32))) dJ13_bitCount_95d88_3 rfl (z_ldc2 dJ13_bitCount_95d88_4 gw753 (z_land dJ13_bitCount_95d88_7 ?_)))))
  refine z_lsub dJ13_bitCount_95d88_8 ?_
  refine z_letT (a := (a0 - ((zlushr a0 (1 : Int32)) &&& (6148914691236517205 : Int64)))) (fun z1 => [(0, .long a0)]) (fun z1 => .long z1 :: []) (fun z1 => ?_)
  refine z_lstore_n (lv' := [(0, .long z1)]) dJ13_bitCount_95d88_9 (Nat.le_of_ble_eq_true rfl) rfl (z_lload_n 0 dJ13_bitCount_95d88_10 rfl (z_ldc2 dJ13_bitCount_95d88_11 gw754 (z_land dJ13_bitCount_95d88_14 (z_lload_n 0 dJ13_bitCount_95d88_15 rfl (z_iconst dJ13_bitCount_95d88_16 zi_2 ?_)))))
  refine z_lushr (v := (zlushr z1 (2 : Int32))) dJ13_bitCount_95d88_17 rfl (z_ldc2 dJ13_bitCount_95d88_18 gw754 (z_land dJ13_bitCount_95d88_21 (z_ladd dJ13_bitCount_95d88_22 ?_)))
  refine z_letT (a := ((z1 &&& (3689348814741910323 : Int64)) + ((zlushr z1 (2 : Int32)) &&& (3689348814741910323 : Int64)))) (fun z2 => [(0, .long z1)]) (fun z2 => .long z2 :: []) (fun z2 => ?_)
  refine z_lstore_n (lv' := [(0, .long z2)]) dJ13_bitCount_95d88_23 (Nat.le_of_ble_eq_true rfl) rfl (z_lload_n 0 dJ13_bitCount_95d88_24 rfl (z_lload_n 0 dJ13_bitCount_95d88_25 rfl (z_iconst dJ13_bitCount_95d88_26 zi_4 (z_lushr (v := (zlushr z2 (4 : Int32))) dJ13_bitCount_95d88_27 rfl (z_ladd dJ13_bitCount_95d88_28 ?_)))))
  refine z_ldc2 dJ13_bitCount_95d88_29 gw755 (z_land dJ13_bitCount_95d88_32 ?_)
  refine z_letT (a := ((z2 + (zlushr z2 (4 : Int32))) &&& (1085102592571150095 : Int64))) (fun z3 => [(0, .long z2)]) (fun z3 => .long z3 :: []) (fun z3 => ?_)
  refine z_lstore_n (lv' := [(0, .long z3)]) dJ13_bitCount_95d88_33 (Nat.le_of_ble_eq_true rfl) rfl (z_lload_n 0 dJ13_bitCount_95d88_34 rfl (z_lload_n 0 dJ13_bitCount_95d88_35 rfl (z_bipush dJ13_bitCount_95d88_36 zb_8 (z_lushr (v := (zlushr z3 (8 : Int32))) dJ13_bitCount_95d88_38 rfl (z_ladd dJ13_bitCount_95d88_39 ?_)))))
  refine z_letT (a := (z3 + (zlushr z3 (8 : Int32)))) (fun z4 => [(0, .long z3)]) (fun z4 => .long z4 :: []) (fun z4 => ?_)
  refine z_lstore_n (lv' := [(0, .long z4)]) dJ13_bitCount_95d88_40 (Nat.le_of_ble_eq_true rfl) rfl (z_lload_n 0 dJ13_bitCount_95d88_41 rfl (z_lload_n 0 dJ13_bitCount_95d88_42 rfl (z_bipush dJ13_bitCount_95d88_43 zb_16 (z_lushr (v := (zlushr z4 (16 : Int32))) dJ13_bitCount_95d88_45 rfl (z_ladd dJ13_bitCount_95d88_46 ?_)))))
  refine z_letT (a := (z4 + (zlushr z4 (16 : Int32)))) (fun z5 => [(0, .long z4)]) (fun z5 => .long z5 :: []) (fun z5 => ?_)
  refine z_lstore_n (lv' := [(0, .long z5)]) dJ13_bitCount_95d88_47 (Nat.le_of_ble_eq_true rfl) rfl (z_lload_n 0 dJ13_bitCount_95d88_48 rfl (z_lload_n 0 dJ13_bitCount_95d88_49 rfl (z_bipush dJ13_bitCount_95d88_50 zb_32 (z_lushr (v := (zlushr z5 (32 : Int32))) dJ13_bitCount_95d88_52 rfl (z_ladd dJ13_bitCount_95d88_53 ?_)))))
  refine z_letT (a := (z5 + (zlushr z5 (32 : Int32)))) (fun z6 => [(0, .long z5)]) (fun z6 => .long z6 :: []) (fun z6 => ?_)
  refine z_lstore_n (lv' := [(0, .long z6)]) dJ13_bitCount_95d88_54 (Nat.le_of_ble_eq_true rfl) rfl (z_lload_n 0 dJ13_bitCount_95d88_55 rfl (z_l2i (v := (z6).toInt32) dJ13_bitCount_95d88_56 rfl (z_bipush dJ13_bitCount_95d88_57 zb_127 (z_iand dJ13_bitCount_95d88_59 ?_))))
  exact z_iret zemP rfl dJ13_bitCount_95d88_60

theorem m_J13_bitCount_95d88 {E : ZE} {S : Zs} (hW : zWF S) (w : Zw) (a0 : Int64) : zMr E yJ13_bitCount_95d88 cJ13_bitCount_95d88 2 ((some .int)) 0 0 0 [.long a0] S w (.inl (eI (f_J13_bitCount_95d88 a0)), S, w) :=
  z_enter (by decide +kernel) (Nat.le_of_ble_eq_true rfl) (mw_J13_bitCount_95d88 hW w a0 _ rfl)
/-! ParkingRobot$Garage.time ()I : T, depth 0 -/
abbrev i_X1_time : Zm := (yX1_time.cls, cX1_time, 1, (some .int), [], yX1_time.name)
def f_X1_time (S : Zs) (w : Zw) (a0 : Nat) : Int32 :=
  (w (zr S a0 7) 3)
theorem mw_X1_time {E : ZE} {S : Zs} (hW : zWF S) (w : Zw) (a0 : Nat) (h0 : zObj S a0 1) : zOk (E, i_X1_time, 0) 0 0 S w 0 [(0, .ref a0)] [] (emP eI S w) (some (f_X1_time S w a0)) := by
  unfold f_X1_time
  refine z_aload_n 0 dX1_time_0 rfl (z_getR zc1 7 (by decide) rfl gw108 h0 (zW_some hW h0 7 rfl) dX1_time_1 (z_getNI zc6 3 (by decide) rfl zn_f2 (zW_obj hW h0 7 6 rfl) dX1_time_4 ?_))
  exact z_iret zemP rfl dX1_time_7

theorem m_X1_time {E : ZE} {S : Zs} (hW : zWF S) (w : Zw) (a0 : Nat) (h0 : zObj S a0 1) : zMr E yX1_time cX1_time 1 ((some .int)) 0 0 0 [.ref a0] S w (.inl (eI (f_X1_time S w a0)), S, w) :=
  z_enter (by decide +kernel) (Nat.le_of_ble_eq_true rfl) (mw_X1_time hW w a0 h0 _ rfl)
/-! ParkingRobot$Garage.came ()I : T, depth 0 -/
abbrev i_X1_came : Zm := (yX1_came.cls, cX1_came, 1, (some .int), [], yX1_came.name)
def f_X1_came (S : Zs) (w : Zw) (a0 : Nat) : Int32 :=
  (w a0 8)
theorem mw_X1_came {E : ZE} {S : Zs} (hW : zWF S) (w : Zw) (a0 : Nat) (h0 : zObj S a0 1) : zOk (E, i_X1_came, 0) 0 0 S w 0 [(0, .ref a0)] [] (emP eI S w) (some (f_X1_came S w a0)) := by
  unfold f_X1_came
  refine z_aload_n 0 dX1_came_0 rfl (z_getI zc1 8 (by decide) rfl gw109 h0 dX1_came_1 ?_)
  exact z_iret zemP rfl dX1_came_4

theorem m_X1_came {E : ZE} {S : Zs} (hW : zWF S) (w : Zw) (a0 : Nat) (h0 : zObj S a0 1) : zMr E yX1_came cX1_came 1 ((some .int)) 0 0 0 [.ref a0] S w (.inl (eI (f_X1_came S w a0)), S, w) :=
  z_enter (by decide +kernel) (Nat.le_of_ble_eq_true rfl) (mw_X1_came hW w a0 h0 _ rfl)
/-! ParkingRobot$Garage.countStored ()I : T, depth 0 -/
abbrev i_X1_countStored : Zm := (yX1_countStored.cls, cX1_countStored, 1, (some .int), [], yX1_countStored.name)
def f_X1_countStored (S : Zs) (w : Zw) (a0 : Nat) : Int32 :=
  (w a0 9)
theorem mw_X1_countStored {E : ZE} {S : Zs} (hW : zWF S) (w : Zw) (a0 : Nat) (h0 : zObj S a0 1) : zOk (E, i_X1_countStored, 0) 0 0 S w 0 [(0, .ref a0)] [] (emP eI S w) (some (f_X1_countStored S w a0)) := by
  unfold f_X1_countStored
  refine z_aload_n 0 dX1_countStored_0 rfl (z_getI zc1 9 (by decide) rfl gw110 h0 dX1_countStored_1 ?_)
  exact z_iret zemP rfl dX1_countStored_4

theorem m_X1_countStored {E : ZE} {S : Zs} (hW : zWF S) (w : Zw) (a0 : Nat) (h0 : zObj S a0 1) : zMr E yX1_countStored cX1_countStored 1 ((some .int)) 0 0 0 [.ref a0] S w (.inl (eI (f_X1_countStored S w a0)), S, w) :=
  z_enter (by decide +kernel) (Nat.le_of_ble_eq_true rfl) (mw_X1_countStored hW w a0 h0 _ rfl)
/-! ParkingRobot$Garage.moved ()I : T, depth 0 -/
abbrev i_X1_moved : Zm := (yX1_moved.cls, cX1_moved, 1, (some .int), [], yX1_moved.name)
def f_X1_moved (S : Zs) (w : Zw) (a0 : Nat) : Int32 :=
  (w a0 10)
theorem mw_X1_moved {E : ZE} {S : Zs} (hW : zWF S) (w : Zw) (a0 : Nat) (h0 : zObj S a0 1) : zOk (E, i_X1_moved, 0) 0 0 S w 0 [(0, .ref a0)] [] (emP eI S w) (some (f_X1_moved S w a0)) := by
  unfold f_X1_moved
  refine z_aload_n 0 dX1_moved_0 rfl (z_getI zc1 10 (by decide) rfl gw111 h0 dX1_moved_1 ?_)
  exact z_iret zemP rfl dX1_moved_4

theorem m_X1_moved {E : ZE} {S : Zs} (hW : zWF S) (w : Zw) (a0 : Nat) (h0 : zObj S a0 1) : zMr E yX1_moved cX1_moved 1 ((some .int)) 0 0 0 [.ref a0] S w (.inl (eI (f_X1_moved S w a0)), S, w) :=
  z_enter (by decide +kernel) (Nat.le_of_ble_eq_true rfl) (mw_X1_moved hW w a0 h0 _ rfl)
/-! ParkingRobot$Garage.log ()LParkingRobot$JobLog; : T, depth 0 -/
abbrev i_X1_log : Zm := (yX1_log.cls, cX1_log, 1, (some (.object "ParkingRobot$JobLog")), [], yX1_log.name)
def f_X1_log (S : Zs) (w : Zw) (a0 : Nat) : Nat :=
  (zr S (zr S a0 7) 2)
theorem mw_X1_log {E : ZE} {S : Zs} (hW : zWF S) (w : Zw) (a0 : Nat) (h0 : zObj S a0 1) : zOk (E, i_X1_log, 0) 0 0 S w 0 [(0, .ref a0)] [] (emP eR S w) (some (f_X1_log S w a0)) := by
  unfold f_X1_log
  refine z_aload_n 0 dX1_log_0 rfl (z_getR zc1 7 (by decide) rfl gw108 h0 (zW_some hW h0 7 rfl) dX1_log_1 (z_getNR zc6 2 (by decide) rfl zn_f1 (zW_obj hW h0 7 6 rfl) (zW_some hW (zW_obj hW h0 7 6 rfl) 2 rfl) dX1_log_4 ?_))
  exact z_aret zemP rfl dX1_log_7

theorem m_X1_log {E : ZE} {S : Zs} (hW : zWF S) (w : Zw) (a0 : Nat) (h0 : zObj S a0 1) : zMr E yX1_log cX1_log 1 ((some (.object "ParkingRobot$JobLog"))) 0 0 0 [.ref a0] S w (.inl (eR (f_X1_log S w a0)), S, w) :=
  z_enter (by decide +kernel) (Nat.le_of_ble_eq_true rfl) (mw_X1_log hW w a0 h0 _ rfl)
theorem mo_X1_log {S : Zs} (hW : zWF S) (w : Zw) (a0 : Nat) (h0 : zObj S a0 1) : zObj S (f_X1_log S w a0) 3 := zW_obj hW (zW_obj hW h0 7 6 rfl) 2 3 rfl
/-! ParkingRobot$JobLog.minutes ()I : T, depth 0 -/
abbrev i_X3_minutes : Zm := (yX3_minutes.cls, cX3_minutes, 1, (some .int), [], yX3_minutes.name)
def f_X3_minutes (S : Zs) (w : Zw) (a0 : Nat) : Int32 :=
  (w a0 2)
theorem mw_X3_minutes {E : ZE} {S : Zs} (hW : zWF S) (w : Zw) (a0 : Nat) (h0 : zObj S a0 3) : zOk (E, i_X3_minutes, 0) 0 0 S w 0 [(0, .ref a0)] [] (emP eI S w) (some (f_X3_minutes S w a0)) := by
  unfold f_X3_minutes
  refine z_aload_n 0 dX3_minutes_0 rfl (z_getI zc3 2 (by decide) rfl gw74 h0 dX3_minutes_1 ?_)
  exact z_iret zemP rfl dX3_minutes_4

theorem m_X3_minutes {E : ZE} {S : Zs} (hW : zWF S) (w : Zw) (a0 : Nat) (h0 : zObj S a0 3) : zMr E yX3_minutes cX3_minutes 1 ((some .int)) 0 0 0 [.ref a0] S w (.inl (eI (f_X3_minutes S w a0)), S, w) :=
  z_enter (by decide +kernel) (Nat.le_of_ble_eq_true rfl) (mw_X3_minutes hW w a0 h0 _ rfl)
/-! ParkingRobot$JobLog.greatestEnd ()I : T, depth 0 -/
abbrev i_X3_greatestEnd : Zm := (yX3_greatestEnd.cls, cX3_greatestEnd, 1, (some .int), [], yX3_greatestEnd.name)
def f_X3_greatestEnd (S : Zs) (w : Zw) (a0 : Nat) : Int32 :=
  (w a0 3)
theorem mw_X3_greatestEnd {E : ZE} {S : Zs} (hW : zWF S) (w : Zw) (a0 : Nat) (h0 : zObj S a0 3) : zOk (E, i_X3_greatestEnd, 0) 0 0 S w 0 [(0, .ref a0)] [] (emP eI S w) (some (f_X3_greatestEnd S w a0)) := by
  unfold f_X3_greatestEnd
  refine z_aload_n 0 dX3_greatestEnd_0 rfl (z_getI zc3 3 (by decide) rfl gw75 h0 dX3_greatestEnd_1 ?_)
  exact z_iret zemP rfl dX3_greatestEnd_4

theorem m_X3_greatestEnd {E : ZE} {S : Zs} (hW : zWF S) (w : Zw) (a0 : Nat) (h0 : zObj S a0 3) : zMr E yX3_greatestEnd cX3_greatestEnd 1 ((some .int)) 0 0 0 [.ref a0] S w (.inl (eI (f_X3_greatestEnd S w a0)), S, w) :=
  z_enter (by decide +kernel) (Nat.le_of_ble_eq_true rfl) (mw_X3_greatestEnd hW w a0 h0 _ rfl)
/-! ParkingRobot.account (I)I : X, depth 6 -/
abbrev i_X7_account : Zm := (yX7_account.cls, cX7_account, 2, (some .int), [], yX7_account.name)
def f_X7_account (S : Zs) (w : Zw) (a0 : Nat) (a1 : Int32) : Option ((Int32 ⊕ String) × Zw) :=
  if a1 = (0 : Int32) then (some (.inl (f_X1_time S w (zr S a0 0)), w)) else if a1 = (1 : Int32) then (some (.inl (f_X1_came S w (zr S a0 0)), w)) else if a1 = (2 : Int32) then (some (.inl ((f_X1_came S w (zr S a0 0)) - (f_X1_countStored S w (zr S a0 0))), w)) else if a1 = (3 : Int32) then (some (.inl (f_X1_moved S w (zr S a0 0)), w)) else if a1 = (4 : Int32) then (some (.inl (f_X3_minutes S w (f_X1_log S w (zr S a0 0))), w)) else if a1 = (5 : Int32) then (some (.inl (f_X3_greatestEnd S w (f_X1_log S w (zr S a0 0))), w)) else (some (.inr "java/lang/IllegalArgumentException", w))
theorem mw_X7_account {E : ZE} {S : Zs} (hW : zWF S) (w : Zw) (a0 : Nat) (h0 : zObj S a0 7) (a1 : Int32) : zOk (E, i_X7_account, 6) 1 6 S w 0 [(0, .ref a0), (1, .int a1)] [] (emX eI S) (f_X7_account S w a0 a1) := by
  unfold f_X7_account
  refine z_iload_n 1 dX7_account_0 rfl ?_
  refine z_ite _ (fun q1 => ?_) (fun q1 => ?_)
  · refine z_tabIn (off := 39) 40 dX7_account_1 (by rw [q1]; decide) (by rw [q1]; decide) (by rw [q1]; decide) rfl ?_
    refine z_aload_n 0 dX7_account_40 rfl (z_getR zc7 0 (by decide) rfl gw216 h0 (zW_some hW h0 0 rfl) dX7_account_41 ?_)
    refine z_callV (kc' := 1) (ks' := 6) (v := (some (.int (f_X1_time S w (zr S a0 0))))) (S1 := S) (w1 := w) (st := []) [] (m_X1_time hW w (zr S a0 0) (zW_obj hW h0 0 1 rfl)) zc1 (zW_obj hW h0 0 1 rfl) zy_X1_time gw885 gw886 gw884 (Nat.le_of_ble_eq_true rfl) (Nat.le_of_ble_eq_true rfl) (Nat.le_of_ble_eq_true rfl) (Nat.le_of_ble_eq_true rfl) (zal hW) rfl dX7_account_44 (z_at 47 _ [.int (f_X1_time S w (zr S a0 0))] rfl rfl rfl ?_)
    exact z_iret zemX rfl dX7_account_47
  refine z_ite _ (fun q2 => ?_) (fun q2 => ?_)
  · refine z_tabIn (off := 47) 48 dX7_account_1 (by rw [q2]; decide) (by rw [q2]; decide) (by rw [q2]; decide) rfl ?_
    refine z_aload_n 0 dX7_account_48 rfl (z_getR zc7 0 (by decide) rfl gw216 h0 (zW_some hW h0 0 rfl) dX7_account_49 ?_)
    refine z_callV (kc' := 1) (ks' := 6) (v := (some (.int (f_X1_came S w (zr S a0 0))))) (S1 := S) (w1 := w) (st := []) [] (m_X1_came hW w (zr S a0 0) (zW_obj hW h0 0 1 rfl)) zc1 (zW_obj hW h0 0 1 rfl) zy_X1_came gw935 gw936 gw934 (Nat.le_of_ble_eq_true rfl) (Nat.le_of_ble_eq_true rfl) (Nat.le_of_ble_eq_true rfl) (Nat.le_of_ble_eq_true rfl) (zal hW) rfl dX7_account_52 (z_at 55 _ [.int (f_X1_came S w (zr S a0 0))] rfl rfl rfl ?_)
    exact z_iret zemX rfl dX7_account_55
  refine z_ite _ (fun q3 => ?_) (fun q3 => ?_)
  · refine z_tabIn (off := 55) 56 dX7_account_1 (by rw [q3]; decide) (by rw [q3]; decide) (by rw [q3]; decide) rfl ?_
    refine z_aload_n 0 dX7_account_56 rfl (z_getR zc7 0 (by decide) rfl gw216 h0 (zW_some hW h0 0 rfl) dX7_account_57 ?_)
    refine z_callV (kc' := 1) (ks' := 6) (v := (some (.int (f_X1_came S w (zr S a0 0))))) (S1 := S) (w1 := w) (st := []) [] (m_X1_came hW w (zr S a0 0) (zW_obj hW h0 0 1 rfl)) zc1 (zW_obj hW h0 0 1 rfl) zy_X1_came gw935 gw936 gw934 (Nat.le_of_ble_eq_true rfl) (Nat.le_of_ble_eq_true rfl) (Nat.le_of_ble_eq_true rfl) (Nat.le_of_ble_eq_true rfl) (zal hW) rfl dX7_account_60 (z_at 63 _ [.int (f_X1_came S w (zr S a0 0))] rfl rfl rfl ?_)
    refine z_aload_n 0 dX7_account_63 rfl (z_getR zc7 0 (by decide) rfl gw216 h0 (zW_some hW h0 0 rfl) dX7_account_64 ?_)
    refine z_callV (kc' := 1) (ks' := 6) (v := (some (.int (f_X1_countStored S w (zr S a0 0))))) (S1 := S) (w1 := w) (st := [.int (f_X1_came S w (zr S a0 0))]) [] (m_X1_countStored hW w (zr S a0 0) (zW_obj hW h0 0 1 rfl)) zc1 (zW_obj hW h0 0 1 rfl) zy_X1_countStored gw407 gw408 gw406 (Nat.le_of_ble_eq_true rfl) (Nat.le_of_ble_eq_true rfl) (Nat.le_of_ble_eq_true rfl) (Nat.le_of_ble_eq_true rfl) (zal hW) rfl dX7_account_67 (z_at 70 _ [.int (f_X1_countStored S w (zr S a0 0)), .int (f_X1_came S w (zr S a0 0))] rfl rfl rfl ?_)
    refine z_isub dX7_account_70 ?_
    exact z_iret zemX rfl dX7_account_71
  refine z_ite _ (fun q4 => ?_) (fun q4 => ?_)
  · refine z_tabIn (off := 71) 72 dX7_account_1 (by rw [q4]; decide) (by rw [q4]; decide) (by rw [q4]; decide) rfl ?_
    refine z_aload_n 0 dX7_account_72 rfl (z_getR zc7 0 (by decide) rfl gw216 h0 (zW_some hW h0 0 rfl) dX7_account_73 ?_)
    refine z_callV (kc' := 1) (ks' := 6) (v := (some (.int (f_X1_moved S w (zr S a0 0))))) (S1 := S) (w1 := w) (st := []) [] (m_X1_moved hW w (zr S a0 0) (zW_obj hW h0 0 1 rfl)) zc1 (zW_obj hW h0 0 1 rfl) zy_X1_moved gw939 gw940 gw938 (Nat.le_of_ble_eq_true rfl) (Nat.le_of_ble_eq_true rfl) (Nat.le_of_ble_eq_true rfl) (Nat.le_of_ble_eq_true rfl) (zal hW) rfl dX7_account_76 (z_at 79 _ [.int (f_X1_moved S w (zr S a0 0))] rfl rfl rfl ?_)
    exact z_iret zemX rfl dX7_account_79
  refine z_ite _ (fun q5 => ?_) (fun q5 => ?_)
  · refine z_tabIn (off := 79) 80 dX7_account_1 (by rw [q5]; decide) (by rw [q5]; decide) (by rw [q5]; decide) rfl ?_
    refine z_aload_n 0 dX7_account_80 rfl (z_getR zc7 0 (by decide) rfl gw216 h0 (zW_some hW h0 0 rfl) dX7_account_81 ?_)
    refine z_callV (kc' := 1) (ks' := 6) (v := (some (.ref (f_X1_log S w (zr S a0 0))))) (S1 := S) (w1 := w) (st := []) [] (m_X1_log hW w (zr S a0 0) (zW_obj hW h0 0 1 rfl)) zc1 (zW_obj hW h0 0 1 rfl) zy_X1_log gw393 gw394 gw392 (Nat.le_of_ble_eq_true rfl) (Nat.le_of_ble_eq_true rfl) (Nat.le_of_ble_eq_true rfl) (Nat.le_of_ble_eq_true rfl) (zal hW) rfl dX7_account_84 (z_at 87 _ [.ref (f_X1_log S w (zr S a0 0))] rfl rfl rfl ?_)
    refine z_callV (kc' := 1) (ks' := 6) (v := (some (.int (f_X3_minutes S w (f_X1_log S w (zr S a0 0)))))) (S1 := S) (w1 := w) (st := []) [] (m_X3_minutes hW w (f_X1_log S w (zr S a0 0)) (mo_X1_log hW w (zr S a0 0) (zW_obj hW h0 0 1 rfl))) zc3 (mo_X1_log hW w (zr S a0 0) (zW_obj hW h0 0 1 rfl)) zy_X3_minutes gw943 gw944 gw942 (Nat.le_of_ble_eq_true rfl) (Nat.le_of_ble_eq_true rfl) (Nat.le_of_ble_eq_true rfl) (Nat.le_of_ble_eq_true rfl) (zal hW) rfl dX7_account_87 (z_at 90 _ [.int (f_X3_minutes S w (f_X1_log S w (zr S a0 0)))] rfl rfl rfl ?_)
    exact z_iret zemX rfl dX7_account_90
  refine z_ite _ (fun q6 => ?_) (fun q6 => ?_)
  · refine z_tabIn (off := 90) 91 dX7_account_1 (by rw [q6]; decide) (by rw [q6]; decide) (by rw [q6]; decide) rfl ?_
    refine z_aload_n 0 dX7_account_91 rfl (z_getR zc7 0 (by decide) rfl gw216 h0 (zW_some hW h0 0 rfl) dX7_account_92 ?_)
    refine z_callV (kc' := 1) (ks' := 6) (v := (some (.ref (f_X1_log S w (zr S a0 0))))) (S1 := S) (w1 := w) (st := []) [] (m_X1_log hW w (zr S a0 0) (zW_obj hW h0 0 1 rfl)) zc1 (zW_obj hW h0 0 1 rfl) zy_X1_log gw393 gw394 gw392 (Nat.le_of_ble_eq_true rfl) (Nat.le_of_ble_eq_true rfl) (Nat.le_of_ble_eq_true rfl) (Nat.le_of_ble_eq_true rfl) (zal hW) rfl dX7_account_95 (z_at 98 _ [.ref (f_X1_log S w (zr S a0 0))] rfl rfl rfl ?_)
    refine z_callV (kc' := 1) (ks' := 6) (v := (some (.int (f_X3_greatestEnd S w (f_X1_log S w (zr S a0 0)))))) (S1 := S) (w1 := w) (st := []) [] (m_X3_greatestEnd hW w (f_X1_log S w (zr S a0 0)) (mo_X1_log hW w (zr S a0 0) (zW_obj hW h0 0 1 rfl))) zc3 (mo_X1_log hW w (zr S a0 0) (zW_obj hW h0 0 1 rfl)) zy_X3_greatestEnd gw947 gw948 gw946 (Nat.le_of_ble_eq_true rfl) (Nat.le_of_ble_eq_true rfl) (Nat.le_of_ble_eq_true rfl) (Nat.le_of_ble_eq_true rfl) (zal hW) rfl dX7_account_98 (z_at 101 _ [.int (f_X3_greatestEnd S w (f_X1_log S w (zr S a0 0)))] rfl rfl rfl ?_)
    exact z_iret zemX rfl dX7_account_101
  refine z_tabOut 102 dX7_account_1 ?_ rfl ?_
  · have n0 := zsw_ne (k := 0) (0 : Int32) (by decide) q1; have n1 := zsw_ne (k := 1) (1 : Int32) (by decide) q2; have n2 := zsw_ne (k := 2) (2 : Int32) (by decide) q3; have n3 := zsw_ne (k := 3) (3 : Int32) (by decide) q4; have n4 := zsw_ne (k := 4) (4 : Int32) (by decide) q5; have n5 := zsw_ne (k := 5) (5 : Int32) (by decide) q6; omega
  exact z_throwW zx_IAE gw427 zt_RX7_277 (Nat.le_of_ble_eq_true rfl) (Nat.le_of_ble_eq_true rfl) (Nat.le_of_ble_eq_true rfl) rfl (Nat.le_of_ble_eq_true rfl) zemXr dX7_account_102 dX7_account_105 dX7_account_106 dX7_account_109 dX7_account_112

theorem m_X7_account {E : ZE} {S : Zs} (hW : zWF S) (w : Zw) (a0 : Nat) (h0 : zObj S a0 7) (a1 : Int32) : ∀ i, f_X7_account S w a0 a1 = some i → zMx E yX7_account cX7_account 2 ((some .int)) 6 1 6 [.ref a0, .int a1] S w ((emX eI S) i) :=
  fun i hi => z_enterX (by decide +kernel) (Nat.le_of_ble_eq_true rfl) (mw_X7_account hW w a0 h0 a1 i hi)
/-! ParkingRobot.isBay (I)Z : P, depth 0 -/
abbrev i_X7_isBay : Zm := (yX7_isBay.cls, cX7_isBay, 1, (some .boolean), [], yX7_isBay.name)
def f_X7_isBay (a0 : Int32) : Option (Int32) :=
  if a0 < 0 then some (0 : Int32) else if (60 : Int32) ≤ a0 then some (0 : Int32) else some (1 : Int32)
theorem mw_X7_isBay {E : ZE} {S : Zs} (hW : zWF S) (w : Zw) (a0 : Int32) : zOk (E, i_X7_isBay, 0) 0 0 S w 0 [(0, .int a0)] [] (emP eI S w) (f_X7_isBay a0) := by
  unfold f_X7_isBay
  refine z_iload_n 0 dX7_isBay_0 rfl ?_
  refine z_if_lt 14 dX7_isBay_1 rfl (fun q1 => ?_) (fun q1 => ?_)
  · refine z_iconst dX7_isBay_14 zi_0 ?_
    exact z_zret zemP rfl rfl dX7_isBay_15
  · refine z_iload_n 0 dX7_isBay_4 rfl (z_bipush dX7_isBay_5 zb_60 ?_)
    refine z_icmp_ge 14 dX7_isBay_7 rfl (fun q2 => ?_) (fun q2 => ?_)
    · refine z_iconst dX7_isBay_14 zi_0 ?_
      exact z_zret zemP rfl rfl dX7_isBay_15
    · refine z_iconst dX7_isBay_10 zi_1 (z_goto 15 dX7_isBay_11 rfl ?_)
      exact z_zret zemP rfl rfl dX7_isBay_15

theorem m_X7_isBay {E : ZE} {S : Zs} (hW : zWF S) (w : Zw) (a0 : Int32) : ∀ i, f_X7_isBay a0 = some i → zMr E yX7_isBay cX7_isBay 1 ((some .boolean)) 0 0 0 [.int a0] S w ((emP eI S w) i) :=
  fun i hi => z_enter (by decide +kernel) (Nat.le_of_ble_eq_true rfl) (mw_X7_isBay hW w a0 i hi)
/-! ParkingRobot.checkBay (I)V : X, depth 6 -/
abbrev i_X7_checkBay : Zm := (yX7_checkBay.cls, cX7_checkBay, 2, none, [], yX7_checkBay.name)
def f_X7_checkBay (w : Zw) (a0 : Nat) (a1 : Int32) : Option ((Unit ⊕ String) × Zw) :=
  (f_X7_isBay a1).bind fun v1 => if v1 = 0 then some (.inr "java/lang/IndexOutOfBoundsException", w) else some (.inl (), w)
theorem mw_X7_checkBay {E : ZE} {S : Zs} (hW : zWF S) (w : Zw) (a0 : Nat) (h0 : zObj S a0 7) (a1 : Int32) : zOk (E, i_X7_checkBay, 6) 1 6 S w 0 [(0, .ref a0), (1, .int a1)] [] (emX eU S) (f_X7_checkBay w a0 a1) := by
  unfold f_X7_checkBay
  refine z_iload_n 1 dX7_checkBay_0 rfl ?_
  refine z_bind (fun v1 hb2 => ?_)
  refine z_callS (kc' := 1) (ks' := 6) (v := (some (.int v1))) (S1 := S) (w1 := w) (st := []) [.int a1] (m_X7_isBay hW w a1 v1 hb2) zy_X7_isBay gw678 gw677 (Nat.le_of_ble_eq_true rfl) (Nat.le_of_ble_eq_true rfl) (Nat.le_of_ble_eq_true rfl) (Nat.le_of_ble_eq_true rfl) (zal hW) rfl dX7_checkBay_1 (z_at 4 _ [.int v1] rfl rfl rfl ?_)
  refine z_if_ne 18 dX7_checkBay_4 rfl (fun q3 => ?_) (fun q3 => ?_)
  · exact z_vret zemX rfl dX7_checkBay_18
  · exact z_throwW zx_IOE gw580 zt_RX7_366 (Nat.le_of_ble_eq_true rfl) (Nat.le_of_ble_eq_true rfl) (Nat.le_of_ble_eq_true rfl) rfl (Nat.le_of_ble_eq_true rfl) zemXr dX7_checkBay_7 dX7_checkBay_10 dX7_checkBay_11 dX7_checkBay_14 dX7_checkBay_17

theorem m_X7_checkBay {E : ZE} {S : Zs} (hW : zWF S) (w : Zw) (a0 : Nat) (h0 : zObj S a0 7) (a1 : Int32) : ∀ i, f_X7_checkBay w a0 a1 = some i → zMx E yX7_checkBay cX7_checkBay 2 none 6 1 6 [.ref a0, .int a1] S w ((emX eU S) i) :=
  fun i hi => z_enterX (by decide +kernel) (Nat.le_of_ble_eq_true rfl) (mw_X7_checkBay hW w a0 h0 a1 i hi)
/-! ParkingRobot.levelOf (I)I : T, depth 0 -/
abbrev i_X7_levelOf : Zm := (yX7_levelOf.cls, cX7_levelOf, 1, (some .int), [], yX7_levelOf.name)
def f_X7_levelOf (a0 : Int32) : Int32 :=
  (a0 / (20 : Int32))
theorem mw_X7_levelOf {E : ZE} {S : Zs} (hW : zWF S) (w : Zw) (a0 : Int32) : zOk (E, i_X7_levelOf, 0) 0 0 S w 0 [(0, .int a0)] [] (emP eI S w) (some (f_X7_levelOf a0)) := by
  unfold f_X7_levelOf
  refine z_iload_n 0 dX7_levelOf_0 rfl (z_bipush dX7_levelOf_1 zb_20 (z_idiv dX7_levelOf_3 (by decide) ?_))
  exact z_iret zemP rfl dX7_levelOf_4

theorem m_X7_levelOf {E : ZE} {S : Zs} (hW : zWF S) (w : Zw) (a0 : Int32) : zMr E yX7_levelOf cX7_levelOf 1 ((some .int)) 0 0 0 [.int a0] S w (.inl (eI (f_X7_levelOf a0)), S, w) :=
  z_enter (by decide +kernel) (Nat.le_of_ble_eq_true rfl) (mw_X7_levelOf hW w a0 _ rfl)
/-! ParkingRobot.sideOf (I)I : T, depth 0 -/
abbrev i_X7_sideOf : Zm := (yX7_sideOf.cls, cX7_sideOf, 1, (some .int), [], yX7_sideOf.name)
def f_X7_sideOf (a0 : Int32) : Int32 :=
  ((zrem a0 (20 : Int32)) / (10 : Int32))
theorem mw_X7_sideOf {E : ZE} {S : Zs} (hW : zWF S) (w : Zw) (a0 : Int32) : zOk (E, i_X7_sideOf, 0) 0 0 S w 0 [(0, .int a0)] [] (emP eI S w) (some (f_X7_sideOf a0)) := by
  unfold f_X7_sideOf
  refine z_iload_n 0 dX7_sideOf_0 rfl (z_bipush dX7_sideOf_1 zb_20 (z_rem dX7_sideOf_3 (by decide) (z_bipush dX7_sideOf_4 zb_10 (z_idiv dX7_sideOf_6 (by decide) ?_))))
  exact z_iret zemP rfl dX7_sideOf_7

theorem m_X7_sideOf {E : ZE} {S : Zs} (hW : zWF S) (w : Zw) (a0 : Int32) : zMr E yX7_sideOf cX7_sideOf 1 ((some .int)) 0 0 0 [.int a0] S w (.inl (eI (f_X7_sideOf a0)), S, w) :=
  z_enter (by decide +kernel) (Nat.le_of_ble_eq_true rfl) (mw_X7_sideOf hW w a0 _ rfl)
/-! ParkingRobot.columnOf (I)I : T, depth 0 -/
abbrev i_X7_columnOf : Zm := (yX7_columnOf.cls, cX7_columnOf, 1, (some .int), [], yX7_columnOf.name)
def f_X7_columnOf (a0 : Int32) : Int32 :=
  ((zrem a0 (10 : Int32)) / (2 : Int32))
theorem mw_X7_columnOf {E : ZE} {S : Zs} (hW : zWF S) (w : Zw) (a0 : Int32) : zOk (E, i_X7_columnOf, 0) 0 0 S w 0 [(0, .int a0)] [] (emP eI S w) (some (f_X7_columnOf a0)) := by
  unfold f_X7_columnOf
  refine z_iload_n 0 dX7_columnOf_0 rfl (z_bipush dX7_columnOf_1 zb_10 (z_rem dX7_columnOf_3 (by decide) (z_iconst dX7_columnOf_4 zi_2 (z_idiv dX7_columnOf_5 (by decide) ?_))))
  exact z_iret zemP rfl dX7_columnOf_6

theorem m_X7_columnOf {E : ZE} {S : Zs} (hW : zWF S) (w : Zw) (a0 : Int32) : zMr E yX7_columnOf cX7_columnOf 1 ((some .int)) 0 0 0 [.int a0] S w (.inl (eI (f_X7_columnOf a0)), S, w) :=
  z_enter (by decide +kernel) (Nat.le_of_ble_eq_true rfl) (mw_X7_columnOf hW w a0 _ rfl)
/-! ParkingRobot.depthOf (I)I : T, depth 0 -/
abbrev i_X7_depthOf : Zm := (yX7_depthOf.cls, cX7_depthOf, 1, (some .int), [], yX7_depthOf.name)
def f_X7_depthOf (a0 : Int32) : Int32 :=
  (zrem a0 (2 : Int32))
theorem mw_X7_depthOf {E : ZE} {S : Zs} (hW : zWF S) (w : Zw) (a0 : Int32) : zOk (E, i_X7_depthOf, 0) 0 0 S w 0 [(0, .int a0)] [] (emP eI S w) (some (f_X7_depthOf a0)) := by
  unfold f_X7_depthOf
  refine z_iload_n 0 dX7_depthOf_0 rfl (z_iconst dX7_depthOf_1 zi_2 (z_rem dX7_depthOf_2 (by decide) ?_))
  exact z_iret zemP rfl dX7_depthOf_3

theorem m_X7_depthOf {E : ZE} {S : Zs} (hW : zWF S) (w : Zw) (a0 : Int32) : zMr E yX7_depthOf cX7_depthOf 1 ((some .int)) 0 0 0 [.int a0] S w (.inl (eI (f_X7_depthOf a0)), S, w) :=
  z_enter (by decide +kernel) (Nat.le_of_ble_eq_true rfl) (mw_X7_depthOf hW w a0 _ rfl)
/-! ParkingRobot.isWide (I)Z : P, depth 1 -/
abbrev i_X7_isWide : Zm := (yX7_isWide.cls, cX7_isWide, 1, (some .boolean), [], yX7_isWide.name)
def f_X7_isWide (a0 : Int32) : Option (Int32) :=
  if (zrem (f_X7_columnOf a0) (2 : Int32)) = 0 then some (1 : Int32) else some (0 : Int32)
theorem mw_X7_isWide {E : ZE} {S : Zs} (hW : zWF S) (w : Zw) (a0 : Int32) : zOk (E, i_X7_isWide, 1) 0 0 S w 0 [(0, .int a0)] [] (emP eI S w) (f_X7_isWide a0) := by
  unfold f_X7_isWide
  refine z_iload_n 0 dX7_isWide_0 rfl ?_
  refine z_callS (kc' := 0) (ks' := 0) (v := (some (.int (f_X7_columnOf a0)))) (S1 := S) (w1 := w) (st := []) [.int a0] (m_X7_columnOf hW w a0) zy_X7_columnOf gw312 gw311 (Nat.le_of_ble_eq_true rfl) (Nat.le_of_ble_eq_true rfl) (Nat.le_of_ble_eq_true rfl) (Nat.le_of_ble_eq_true rfl) (zal hW) rfl dX7_isWide_1 (z_at 4 _ [.int (f_X7_columnOf a0)] rfl rfl rfl ?_)
  refine z_iconst dX7_isWide_4 zi_2 (z_rem dX7_isWide_5 (by decide) ?_)
  refine z_if_ne 13 dX7_isWide_6 rfl (fun q1 => ?_) (fun q1 => ?_)
  · refine z_iconst dX7_isWide_13 zi_0 ?_
    exact z_zret zemP rfl rfl dX7_isWide_14
  · refine z_iconst dX7_isWide_9 zi_1 (z_goto 14 dX7_isWide_10 rfl ?_)
    exact z_zret zemP rfl rfl dX7_isWide_14

theorem m_X7_isWide {E : ZE} {S : Zs} (hW : zWF S) (w : Zw) (a0 : Int32) : ∀ i, f_X7_isWide a0 = some i → zMr E yX7_isWide cX7_isWide 1 ((some .boolean)) 1 0 0 [.int a0] S w ((emP eI S w) i) :=
  fun i hi => z_enter (by decide +kernel) (Nat.le_of_ble_eq_true rfl) (mw_X7_isWide hW w a0 i hi)
/-! ParkingRobot$Garage.isClosed (I)Z : P, depth 0 -/
abbrev i_X1_isClosed : Zm := (yX1_isClosed.cls, cX1_isClosed, 2, (some .boolean), [], yX1_isClosed.name)
def f_X1_isClosed (S : Zs) (w : Zw) (a0 : Nat) (a1 : Int32) : Option (Int32) :=
  if zin a1 (zlen S (zr S a0 0)) = true then if zb1 (w (zr S a0 0) (zix a1)) = true then some (w (zr S a0 0) (zix a1)) else none else none
theorem mw_X1_isClosed {E : ZE} {S : Zs} (hW : zWF S) (w : Zw) (a0 : Nat) (h0 : zObj S a0 1) (a1 : Int32) : zOk (E, i_X1_isClosed, 0) 0 0 S w 0 [(0, .ref a0), (1, .int a1)] [] (emP eI S w) (f_X1_isClosed S w a0 a1) := by
  unfold f_X1_isClosed
  refine z_aload_n 0 dX1_isClosed_0 rfl (z_getR zc1 0 (by decide) rfl gw101 h0 (zW_some hW h0 0 rfl) dX1_isClosed_1 (z_iload_n 1 dX1_isClosed_4 rfl ?_))
  refine z_chk (fun c1 => ?_)
  refine z_zald (zW_arr hW h0 0 1 rfl) c1 dX1_isClosed_5 ?_
  refine z_chk (fun c2 => ?_)
  exact z_zret zemP rfl (zb1_nar c2) dX1_isClosed_6

theorem m_X1_isClosed {E : ZE} {S : Zs} (hW : zWF S) (w : Zw) (a0 : Nat) (h0 : zObj S a0 1) (a1 : Int32) : ∀ i, f_X1_isClosed S w a0 a1 = some i → zMr E yX1_isClosed cX1_isClosed 2 ((some .boolean)) 0 0 0 [.ref a0, .int a1] S w ((emP eI S w) i) :=
  fun i hi => z_enter (by decide +kernel) (Nat.le_of_ble_eq_true rfl) (mw_X1_isClosed hW w a0 h0 a1 i hi)
/-! ParkingRobot$Garage.carIn (I)I : P, depth 0 -/
abbrev i_X1_carIn : Zm := (yX1_carIn.cls, cX1_carIn, 2, (some .int), [], yX1_carIn.name)
def f_X1_carIn (S : Zs) (w : Zw) (a0 : Nat) (a1 : Int32) : Option (Int32) :=
  if zin a1 (zlen S (zr S a0 1)) = true then some (w (zr S a0 1) (zix a1)) else none
theorem mw_X1_carIn {E : ZE} {S : Zs} (hW : zWF S) (w : Zw) (a0 : Nat) (h0 : zObj S a0 1) (a1 : Int32) : zOk (E, i_X1_carIn, 0) 0 0 S w 0 [(0, .ref a0), (1, .int a1)] [] (emP eI S w) (f_X1_carIn S w a0 a1) := by
  unfold f_X1_carIn
  refine z_aload_n 0 dX1_carIn_0 rfl (z_getR zc1 1 (by decide) rfl gw102 h0 (zW_some hW h0 1 rfl) dX1_carIn_1 (z_iload_n 1 dX1_carIn_4 rfl ?_))
  refine z_chk (fun c1 => ?_)
  refine z_iald (zW_arr hW h0 1 0 rfl) c1 dX1_carIn_5 ?_
  exact z_iret zemP rfl dX1_carIn_6

theorem m_X1_carIn {E : ZE} {S : Zs} (hW : zWF S) (w : Zw) (a0 : Nat) (h0 : zObj S a0 1) (a1 : Int32) : ∀ i, f_X1_carIn S w a0 a1 = some i → zMr E yX1_carIn cX1_carIn 2 ((some .int)) 0 0 0 [.ref a0, .int a1] S w ((emP eI S w) i) :=
  fun i hi => z_enter (by decide +kernel) (Nat.le_of_ble_eq_true rfl) (mw_X1_carIn hW w a0 h0 a1 i hi)
/-! ParkingRobot$Garage.carBefore (I)I : P, depth 1 -/
abbrev i_X1_carBefore : Zm := (yX1_carBefore.cls, cX1_carBefore, 2, (some .int), [], yX1_carBefore.name)
def f_X1_carBefore (S : Zs) (w : Zw) (a0 : Nat) (a1 : Int32) : Option (Int32) :=
  if (f_X7_depthOf a1) = (1 : Int32) then (if zin (a1 - (1 : Int32)) (zlen S (zr S a0 1)) = true then some (w (zr S a0 1) (zix (a1 - (1 : Int32)))) else none) else some (-1 : Int32)
theorem mw_X1_carBefore {E : ZE} {S : Zs} (hW : zWF S) (w : Zw) (a0 : Nat) (h0 : zObj S a0 1) (a1 : Int32) : zOk (E, i_X1_carBefore, 1) 0 0 S w 0 [(0, .ref a0), (1, .int a1)] [] (emP eI S w) (f_X1_carBefore S w a0 a1) := by
  unfold f_X1_carBefore
  refine z_iload_n 1 dX1_carBefore_0 rfl ?_
  refine z_callSN (kc' := 0) (ks' := 0) (v := (some (.int (f_X7_depthOf a1)))) (S1 := S) (w1 := w) (st := []) [.int a1] (m_X7_depthOf hW w a1) zy_X7_depthOf gw290 zn_m2 (Nat.le_of_ble_eq_true rfl) (Nat.le_of_ble_eq_true rfl) (Nat.le_of_ble_eq_true rfl) (Nat.le_of_ble_eq_true rfl) (zal hW) rfl dX1_carBefore_1 (z_at 4 _ [.int (f_X7_depthOf a1)] rfl rfl rfl ?_)
  refine z_iconst dX1_carBefore_4 zi_1 ?_
  refine z_icmp_ne 19 dX1_carBefore_5 rfl (fun q1 => ?_) (fun q1 => ?_)
  · refine z_iconst dX1_carBefore_19 zi_m1 ?_
    exact z_iret zemP rfl dX1_carBefore_20
  · refine z_aload_n 0 dX1_carBefore_8 rfl (z_getR zc1 1 (by decide) rfl gw102 h0 (zW_some hW h0 1 rfl) dX1_carBefore_9 (z_iload_n 1 dX1_carBefore_12 rfl (z_iconst dX1_carBefore_13 zi_1 (z_isub dX1_carBefore_14 ?_))))
    refine z_chk (fun c2 => ?_)
    refine z_iald (zW_arr hW h0 1 0 rfl) c2 dX1_carBefore_15 (z_goto 20 dX1_carBefore_16 rfl ?_)
    exact z_iret zemP rfl dX1_carBefore_20

theorem m_X1_carBefore {E : ZE} {S : Zs} (hW : zWF S) (w : Zw) (a0 : Nat) (h0 : zObj S a0 1) (a1 : Int32) : ∀ i, f_X1_carBefore S w a0 a1 = some i → zMr E yX1_carBefore cX1_carBefore 2 ((some .int)) 1 0 0 [.ref a0, .int a1] S w ((emP eI S w) i) :=
  fun i hi => z_enter (by decide +kernel) (Nat.le_of_ble_eq_true rfl) (mw_X1_carBefore hW w a0 h0 a1 i hi)
/-! ParkingRobot.bay (II)I : X, depth 7 -/
abbrev i_X7_bay : Zm := (yX7_bay.cls, cX7_bay, 3, (some .int), [], yX7_bay.name)
def f_X7_bay (S : Zs) (w : Zw) (a0 : Nat) (a1 : Int32) (a2 : Int32) : Option ((Int32 ⊕ String) × Zw) :=
  zbx (f_X7_checkBay w a0 a1) (fun v1 w2 => if a2 = (0 : Int32) then (some (.inl (f_X7_levelOf a1), w2)) else if a2 = (1 : Int32) then (some (.inl (f_X7_sideOf a1), w2)) else if a2 = (2 : Int32) then (some (.inl (f_X7_columnOf a1), w2)) else if a2 = (3 : Int32) then (some (.inl (f_X7_depthOf a1), w2)) else if a2 = (4 : Int32) then ((f_X7_isWide a1).bind fun v10 => if v10 = 0 then some (.inl (0 : Int32), w2) else some (.inl (1 : Int32), w2)) else if a2 = (5 : Int32) then ((f_X1_isClosed S w2 (zr S a0 0) a1).bind fun v14 => if v14 = 0 then some (.inl (0 : Int32), w2) else some (.inl (1 : Int32), w2)) else if a2 = (6 : Int32) then ((f_X1_carIn S w2 (zr S a0 0) a1).bind fun v18 => some (.inl v18, w2)) else if a2 = (7 : Int32) then ((f_X1_carBefore S w2 (zr S a0 0) a1).bind fun v21 => if v21 = (-1 : Int32) then some (.inl (1 : Int32), w2) else some (.inl (0 : Int32), w2)) else (some (.inr "java/lang/IllegalArgumentException", w2))) (fun e w => some (.inr e, w))
theorem mw_X7_bay {E : ZE} {S : Zs} (hW : zWF S) (w : Zw) (a0 : Nat) (h0 : zObj S a0 7) (a1 : Int32) (a2 : Int32) : zOk (E, i_X7_bay, 7) 2 12 S w 0 [(0, .ref a0), (1, .int a1), (2, .int a2)] [] (emX eI S) (f_X7_bay S w a0 a1 a2) := by
  unfold f_X7_bay
  refine z_aload_n 0 dX7_bay_0 rfl (z_iload_n 1 dX7_bay_1 rfl ?_)
  refine z_bindX (fun j9 hb3 => ?_)
  obtain ⟨v1 | e4, w2⟩ := j9
  case inr => exact z_callVX (kc' := 1) (ks' := 6) (r := (.inr e4, S, w2)) (st := []) [.int a1] (m_X7_checkBay hW w a0 h0 a1 _ hb3) zc7 h0 zy_X7_checkBay gw675 gp9 gw673 (Nat.le_of_ble_eq_true rfl) (Nat.le_of_ble_eq_true rfl) (Nat.le_of_ble_eq_true rfl) (Nat.le_of_ble_eq_true rfl) (zal hW) rfl dX7_bay_2 rfl (fun _ q9 => nomatch q9) (fun _ _ i9 hi9 => by cases hi9; rfl)
  refine z_callVX (kc' := 1) (ks' := 6) (r := (.inl (eU v1), S, w2)) (st := []) [.int a1] (m_X7_checkBay hW w a0 h0 a1 _ hb3) zc7 h0 zy_X7_checkBay gw675 gp9 gw673 (Nat.le_of_ble_eq_true rfl) (Nat.le_of_ble_eq_true rfl) (Nat.le_of_ble_eq_true rfl) (Nat.le_of_ble_eq_true rfl) (zal hW) rfl dX7_bay_2 rfl (fun v9 hv9 => ?_) (fun _ q9 => nomatch q9)
  cases hv9
  refine z_at 5 _ [] rfl rfl rfl ?_
  dsimp only [zbx]
  refine z_iload_n 2 dX7_bay_5 rfl ?_
  refine z_ite _ (fun q5 => ?_) (fun q5 => ?_)
  · refine z_tabIn (off := 46) 52 dX7_bay_6 (by rw [q5]; decide) (by rw [q5]; decide) (by rw [q5]; decide) rfl ?_
    refine z_iload_n 1 dX7_bay_52 rfl ?_
    refine z_callS (kc' := 1) (ks' := 6) (v := (some (.int (f_X7_levelOf a1)))) (S1 := S) (w1 := w2) (st := []) [.int a1] (m_X7_levelOf hW w2 a1) zy_X7_levelOf gw318 gw317 (Nat.le_of_ble_eq_true rfl) (Nat.le_of_ble_eq_true rfl) (Nat.le_of_ble_eq_true rfl) (Nat.le_of_ble_eq_true rfl) (zal hW) rfl dX7_bay_53 (z_at 56 _ [.int (f_X7_levelOf a1)] rfl rfl rfl ?_)
    exact z_iret zemX rfl dX7_bay_56
  refine z_ite _ (fun q6 => ?_) (fun q6 => ?_)
  · refine z_tabIn (off := 51) 57 dX7_bay_6 (by rw [q6]; decide) (by rw [q6]; decide) (by rw [q6]; decide) rfl ?_
    refine z_iload_n 1 dX7_bay_57 rfl ?_
    refine z_callS (kc' := 1) (ks' := 6) (v := (some (.int (f_X7_sideOf a1)))) (S1 := S) (w1 := w2) (st := []) [.int a1] (m_X7_sideOf hW w2 a1) zy_X7_sideOf gw693 gw692 (Nat.le_of_ble_eq_true rfl) (Nat.le_of_ble_eq_true rfl) (Nat.le_of_ble_eq_true rfl) (Nat.le_of_ble_eq_true rfl) (zal hW) rfl dX7_bay_58 (z_at 61 _ [.int (f_X7_sideOf a1)] rfl rfl rfl ?_)
    exact z_iret zemX rfl dX7_bay_61
  refine z_ite _ (fun q7 => ?_) (fun q7 => ?_)
  · refine z_tabIn (off := 56) 62 dX7_bay_6 (by rw [q7]; decide) (by rw [q7]; decide) (by rw [q7]; decide) rfl ?_
    refine z_iload_n 1 dX7_bay_62 rfl ?_
    refine z_callS (kc' := 1) (ks' := 6) (v := (some (.int (f_X7_columnOf a1)))) (S1 := S) (w1 := w2) (st := []) [.int a1] (m_X7_columnOf hW w2 a1) zy_X7_columnOf gw312 gw311 (Nat.le_of_ble_eq_true rfl) (Nat.le_of_ble_eq_true rfl) (Nat.le_of_ble_eq_true rfl) (Nat.le_of_ble_eq_true rfl) (zal hW) rfl dX7_bay_63 (z_at 66 _ [.int (f_X7_columnOf a1)] rfl rfl rfl ?_)
    exact z_iret zemX rfl dX7_bay_66
  refine z_ite _ (fun q8 => ?_) (fun q8 => ?_)
  · refine z_tabIn (off := 61) 67 dX7_bay_6 (by rw [q8]; decide) (by rw [q8]; decide) (by rw [q8]; decide) rfl ?_
    refine z_iload_n 1 dX7_bay_67 rfl ?_
    refine z_callS (kc' := 1) (ks' := 6) (v := (some (.int (f_X7_depthOf a1)))) (S1 := S) (w1 := w2) (st := []) [.int a1] (m_X7_depthOf hW w2 a1) zy_X7_depthOf gw290 gw320 (Nat.le_of_ble_eq_true rfl) (Nat.le_of_ble_eq_true rfl) (Nat.le_of_ble_eq_true rfl) (Nat.le_of_ble_eq_true rfl) (zal hW) rfl dX7_bay_68 (z_at 71 _ [.int (f_X7_depthOf a1)] rfl rfl rfl ?_)
    exact z_iret zemX rfl dX7_bay_71
  refine z_ite _ (fun q9 => ?_) (fun q9 => ?_)
  · refine z_tabIn (off := 66) 72 dX7_bay_6 (by rw [q9]; decide) (by rw [q9]; decide) (by rw [q9]; decide) rfl ?_
    refine z_iload_n 1 dX7_bay_72 rfl ?_
    refine z_bind (fun v10 hb11 => ?_)
    refine z_callS (kc' := 1) (ks' := 6) (v := (some (.int v10))) (S1 := S) (w1 := w2) (st := []) [.int a1] (m_X7_isWide hW w2 a1 v10 hb11) zy_X7_isWide gw309 gw695 (Nat.le_of_ble_eq_true rfl) (Nat.le_of_ble_eq_true rfl) (Nat.le_of_ble_eq_true rfl) (Nat.le_of_ble_eq_true rfl) (zal hW) rfl dX7_bay_73 (z_at 76 _ [.int v10] rfl rfl rfl ?_)
    refine z_if_eq 83 dX7_bay_76 rfl (fun q12 => ?_) (fun q12 => ?_)
    · refine z_iconst dX7_bay_83 zi_0 ?_
      exact z_iret zemX rfl dX7_bay_84
    · refine z_iconst dX7_bay_79 zi_1 (z_goto 84 dX7_bay_80 rfl ?_)
      exact z_iret zemX rfl dX7_bay_84
  refine z_ite _ (fun q13 => ?_) (fun q13 => ?_)
  · refine z_tabIn (off := 79) 85 dX7_bay_6 (by rw [q13]; decide) (by rw [q13]; decide) (by rw [q13]; decide) rfl ?_
    refine z_aload_n 0 dX7_bay_85 rfl (z_getR zc7 0 (by decide) rfl gw216 h0 (zW_some hW h0 0 rfl) dX7_bay_86 (z_iload_n 1 dX7_bay_89 rfl ?_))
    refine z_bind (fun v14 hb15 => ?_)
    refine z_callV (kc' := 1) (ks' := 6) (v := (some (.int v14))) (S1 := S) (w1 := w2) (st := []) [.int a1] (m_X1_isClosed hW w2 (zr S a0 0) (zW_obj hW h0 0 1 rfl) a1 v14 hb15) zc1 (zW_obj hW h0 0 1 rfl) zy_X1_isClosed gw697 gw698 gw696 (Nat.le_of_ble_eq_true rfl) (Nat.le_of_ble_eq_true rfl) (Nat.le_of_ble_eq_true rfl) (Nat.le_of_ble_eq_true rfl) (zal hW) rfl dX7_bay_90 (z_at 93 _ [.int v14] rfl rfl rfl ?_)
    refine z_if_eq 100 dX7_bay_93 rfl (fun q16 => ?_) (fun q16 => ?_)
    · refine z_iconst dX7_bay_100 zi_0 ?_
      exact z_iret zemX rfl dX7_bay_101
    · refine z_iconst dX7_bay_96 zi_1 (z_goto 101 dX7_bay_97 rfl ?_)
      exact z_iret zemX rfl dX7_bay_101
  refine z_ite _ (fun q17 => ?_) (fun q17 => ?_)
  · refine z_tabIn (off := 96) 102 dX7_bay_6 (by rw [q17]; decide) (by rw [q17]; decide) (by rw [q17]; decide) rfl ?_
    refine z_aload_n 0 dX7_bay_102 rfl (z_getR zc7 0 (by decide) rfl gw216 h0 (zW_some hW h0 0 rfl) dX7_bay_103 (z_iload_n 1 dX7_bay_106 rfl ?_))
    refine z_bind (fun v18 hb19 => ?_)
    refine z_callV (kc' := 1) (ks' := 6) (v := (some (.int v18))) (S1 := S) (w1 := w2) (st := []) [.int a1] (m_X1_carIn hW w2 (zr S a0 0) (zW_obj hW h0 0 1 rfl) a1 v18 hb19) zc1 (zW_obj hW h0 0 1 rfl) zy_X1_carIn gw701 gw702 gw700 (Nat.le_of_ble_eq_true rfl) (Nat.le_of_ble_eq_true rfl) (Nat.le_of_ble_eq_true rfl) (Nat.le_of_ble_eq_true rfl) (zal hW) rfl dX7_bay_107 (z_at 110 _ [.int v18] rfl rfl rfl ?_)
    exact z_iret zemX rfl dX7_bay_110
  refine z_ite _ (fun q20 => ?_) (fun q20 => ?_)
  · refine z_tabIn (off := 105) 111 dX7_bay_6 (by rw [q20]; decide) (by rw [q20]; decide) (by rw [q20]; decide) rfl ?_
    refine z_aload_n 0 dX7_bay_111 rfl (z_getR zc7 0 (by decide) rfl gw216 h0 (zW_some hW h0 0 rfl) dX7_bay_112 (z_iload_n 1 dX7_bay_115 rfl ?_))
    refine z_bind (fun v21 hb22 => ?_)
    refine z_callV (kc' := 1) (ks' := 6) (v := (some (.int v21))) (S1 := S) (w1 := w2) (st := []) [.int a1] (m_X1_carBefore hW w2 (zr S a0 0) (zW_obj hW h0 0 1 rfl) a1 v21 hb22) zc1 (zW_obj hW h0 0 1 rfl) zy_X1_carBefore gw286 gw287 gw704 (Nat.le_of_ble_eq_true rfl) (Nat.le_of_ble_eq_true rfl) (Nat.le_of_ble_eq_true rfl) (Nat.le_of_ble_eq_true rfl) (zal hW) rfl dX7_bay_116 (z_at 119 _ [.int v21] rfl rfl rfl ?_)
    refine z_iconst dX7_bay_119 zi_m1 ?_
    refine z_icmp_ne 127 dX7_bay_120 rfl (fun q23 => ?_) (fun q23 => ?_)
    · refine z_iconst dX7_bay_127 zi_0 ?_
      exact z_iret zemX rfl dX7_bay_128
    · refine z_iconst dX7_bay_123 zi_1 (z_goto 128 dX7_bay_124 rfl ?_)
      exact z_iret zemX rfl dX7_bay_128
  refine z_tabOut 129 dX7_bay_6 ?_ rfl ?_
  · have n0 := zsw_ne (k := 0) (0 : Int32) (by decide) q5; have n1 := zsw_ne (k := 1) (1 : Int32) (by decide) q6; have n2 := zsw_ne (k := 2) (2 : Int32) (by decide) q7; have n3 := zsw_ne (k := 3) (3 : Int32) (by decide) q8; have n4 := zsw_ne (k := 4) (4 : Int32) (by decide) q9; have n5 := zsw_ne (k := 5) (5 : Int32) (by decide) q13; have n6 := zsw_ne (k := 6) (6 : Int32) (by decide) q17; have n7 := zsw_ne (k := 7) (7 : Int32) (by decide) q20; omega
  exact z_throw zx_IAE gw427 zt_RX7_147 (Nat.le_of_ble_eq_true rfl) (Nat.le_of_ble_eq_true rfl) (Nat.le_of_ble_eq_true rfl) rfl (Nat.le_of_ble_eq_true rfl) zemXr dX7_bay_129 dX7_bay_132 dX7_bay_133 dX7_bay_135 dX7_bay_138

theorem m_X7_bay {E : ZE} {S : Zs} (hW : zWF S) (w : Zw) (a0 : Nat) (h0 : zObj S a0 7) (a1 : Int32) (a2 : Int32) : ∀ i, f_X7_bay S w a0 a1 a2 = some i → zMx E yX7_bay cX7_bay 3 ((some .int)) 7 2 12 [.ref a0, .int a1, .int a2] S w ((emX eI S) i) :=
  fun i hi => z_enterX (by decide +kernel) (Nat.le_of_ble_eq_true rfl) (mw_X7_bay hW w a0 h0 a1 a2 i hi)
/-! ParkingRobot$Garage.countOpenWithoutCar (Z)I : P, depth 2 -/
abbrev i_X1_countOpenWithoutCar : Zm := (yX1_countOpenWithoutCar.cls, cX1_countOpenWithoutCar, 4, (some .int), [], yX1_countOpenWithoutCar.name)
def f_X1_countOpenWithoutCar_b4 (S : Zs) (w : Zw) (x0 : Nat) (x1 : Int32) (k : (Int32 × Int32) → Option (Int32)) (x2 : Int32) (x3 : Int32) : Option (Int32) :=
  if (60 : Int32) ≤ x3 then some x2 else if zin x3 (zlen S (zr S x0 0)) = true then if (w (zr S x0 0) (zix x3)) = 0 then (if zin x3 (zlen S (zr S x0 1)) = true then if (w (zr S x0 1) (zix x3)) = (-1 : Int32) then (if x1 = 0 then k ((x2 + (1 : Int32)), (x3 + (1 : Int32))) else (f_X1_carBefore S w x0 x3).bind fun v7 => if v7 = (-1 : Int32) then k ((x2 + (1 : Int32)), (x3 + (1 : Int32))) else k (x2, (x3 + (1 : Int32)))) else k (x2, (x3 + (1 : Int32))) else none) else k (x2, (x3 + (1 : Int32))) else none
def f_X1_countOpenWithoutCar_l4 (S : Zs) (w : Zw) (x0 : Nat) (x1 : Int32) (a : Int32 × Int32) : Option (Int32) :=
  zlp (fun k a => f_X1_countOpenWithoutCar_b4 S w x0 x1 k a.1 a.2) zFU a
theorem m_X1_countOpenWithoutCar_l4 {E : ZE} {S : Zs} (hW : zWF S) (w : Zw) (x0 : Nat) (hx0 : zObj S x0 1) (x1 : Int32) : ∀ a : Int32 × Int32, zOk (E, i_X1_countOpenWithoutCar, 2) 0 0 S w 4 [(0, .ref x0), (1, .int x1), (2, .int a.1), (3, .int a.2)] [] (emP eI S w) (f_X1_countOpenWithoutCar_l4 S w x0 x1 a) := by
  intro a
  refine z_lp (P := fun _ => True) (W9 := fun a : Int32 × Int32 => w) (L9 := fun a : Int32 × Int32 => [(0, .ref x0), (1, .int x1), (2, .int a.1), (3, .int a.2)]) (T9 := fun _ => []) (fun k hk9 a _ => ?_) zFU a trivial
  have hk : ∀ a : Int32 × Int32, zOk (E, i_X1_countOpenWithoutCar, 2) 0 0 S w 4 [(0, .ref x0), (1, .int x1), (2, .int a.1), (3, .int a.2)] [] (emP eI S w) (k a) := fun a => hk9 a trivial
  clear hk9
  obtain ⟨x2, x3⟩ := a
  show zOk (E, i_X1_countOpenWithoutCar, 2) 0 0 S w 4 [(0, .ref x0), (1, .int x1), (2, .int x2), (3, .int x3)] [] (emP eI S w) (f_X1_countOpenWithoutCar_b4 S w x0 x1 k x2 x3)
  unfold f_X1_countOpenWithoutCar_b4
  refine z_iload_n 3 dX1_countOpenWithoutCar_4 rfl (z_bipush dX1_countOpenWithoutCar_5 zb_60 ?_)
  refine z_icmp_ge 51 dX1_countOpenWithoutCar_7 rfl (fun q1 => ?_) (fun q1 => ?_)
  · refine z_iload_n 2 dX1_countOpenWithoutCar_51 rfl ?_
    exact z_iret zemP rfl dX1_countOpenWithoutCar_52
  · refine z_aload_n 0 dX1_countOpenWithoutCar_10 rfl (z_getR zc1 0 (by decide) rfl gw101 hx0 (zW_some hW hx0 0 rfl) dX1_countOpenWithoutCar_11 (z_iload_n 3 dX1_countOpenWithoutCar_14 rfl ?_))
    refine z_chk (fun c2 => ?_)
    refine z_zald (zW_arr hW hx0 0 1 rfl) c2 dX1_countOpenWithoutCar_15 ?_
    refine z_if_ne 45 dX1_countOpenWithoutCar_16 rfl (fun q3 => ?_) (fun q3 => ?_)
    · refine z_iinc (v := (x3 + (1 : Int32))) (lv' := [(3, .int (x3 + (1 : Int32))), (0, .ref x0), (1, .int x1), (2, .int x2)]) 3 dX1_countOpenWithoutCar_45 rfl (zi_inc _ zi_1) (Nat.le_of_ble_eq_true rfl) rfl (z_goto 4 dX1_countOpenWithoutCar_48 rfl ?_)
      refine z_sub (lv' := [(0, .ref x0), (1, .int x1), (2, .int x2), (3, .int (x3 + (1 : Int32)))]) [1, 2, 3, 0] rfl ?_
      refine z_pc (pc' := 4) rfl ?_
      exact hk (x2, (x3 + (1 : Int32)))
    · refine z_aload_n 0 dX1_countOpenWithoutCar_19 rfl (z_getR zc1 1 (by decide) rfl gw102 hx0 (zW_some hW hx0 1 rfl) dX1_countOpenWithoutCar_20 (z_iload_n 3 dX1_countOpenWithoutCar_23 rfl ?_))
      refine z_chk (fun c4 => ?_)
      refine z_iald (zW_arr hW hx0 1 0 rfl) c4 dX1_countOpenWithoutCar_24 (z_iconst dX1_countOpenWithoutCar_25 zi_m1 ?_)
      refine z_icmp_ne 45 dX1_countOpenWithoutCar_26 rfl (fun q5 => ?_) (fun q5 => ?_)
      · refine z_iinc (v := (x3 + (1 : Int32))) (lv' := [(3, .int (x3 + (1 : Int32))), (0, .ref x0), (1, .int x1), (2, .int x2)]) 3 dX1_countOpenWithoutCar_45 rfl (zi_inc _ zi_1) (Nat.le_of_ble_eq_true rfl) rfl (z_goto 4 dX1_countOpenWithoutCar_48 rfl ?_)
        refine z_sub (lv' := [(0, .ref x0), (1, .int x1), (2, .int x2), (3, .int (x3 + (1 : Int32)))]) [1, 2, 3, 0] rfl ?_
        refine z_pc (pc' := 4) rfl ?_
        exact hk (x2, (x3 + (1 : Int32)))
      · refine z_iload_n 1 dX1_countOpenWithoutCar_29 rfl ?_
        refine z_if_eq 42 dX1_countOpenWithoutCar_30 rfl (fun q6 => ?_) (fun q6 => ?_)
        · refine z_iinc (v := (x2 + (1 : Int32))) (lv' := [(2, .int (x2 + (1 : Int32))), (0, .ref x0), (1, .int x1), (3, .int x3)]) 2 dX1_countOpenWithoutCar_42 rfl (zi_inc _ zi_1) (Nat.le_of_ble_eq_true rfl) rfl (z_iinc (v := (x3 + (1 : Int32))) (lv' := [(3, .int (x3 + (1 : Int32))), (2, .int (x2 + (1 : Int32))), (0, .ref x0), (1, .int x1)]) 3 dX1_countOpenWithoutCar_45 rfl (zi_inc _ zi_1) (Nat.le_of_ble_eq_true rfl) rfl (z_goto 4 dX1_countOpenWithoutCar_48 rfl ?_))
          refine z_sub (lv' := [(0, .ref x0), (1, .int x1), (2, .int (x2 + (1 : Int32))), (3, .int (x3 + (1 : Int32)))]) [2, 3, 1, 0] rfl ?_
          refine z_pc (pc' := 4) rfl ?_
          exact hk ((x2 + (1 : Int32)), (x3 + (1 : Int32)))
        · refine z_aload_n 0 dX1_countOpenWithoutCar_33 rfl (z_iload_n 3 dX1_countOpenWithoutCar_34 rfl ?_)
          refine z_bind (fun v7 hb8 => ?_)
          refine z_callV (kc' := 0) (ks' := 0) (v := (some (.int v7))) (S1 := S) (w1 := w) (st := []) [.int x3] (m_X1_carBefore hW w x0 hx0 x3 v7 hb8) zc1 hx0 zy_X1_carBefore gw286 gw287 gw285 (Nat.le_of_ble_eq_true rfl) (Nat.le_of_ble_eq_true rfl) (Nat.le_of_ble_eq_true rfl) (Nat.le_of_ble_eq_true rfl) (zal hW) rfl dX1_countOpenWithoutCar_35 (z_at 38 _ [.int v7] rfl rfl rfl ?_)
          refine z_iconst dX1_countOpenWithoutCar_38 zi_m1 ?_
          refine z_icmp_ne 45 dX1_countOpenWithoutCar_39 rfl (fun q9 => ?_) (fun q9 => ?_)
          · refine z_iinc (v := (x3 + (1 : Int32))) (lv' := [(3, .int (x3 + (1 : Int32))), (0, .ref x0), (1, .int x1), (2, .int x2)]) 3 dX1_countOpenWithoutCar_45 rfl (zi_inc _ zi_1) (Nat.le_of_ble_eq_true rfl) rfl (z_goto 4 dX1_countOpenWithoutCar_48 rfl ?_)
            refine z_sub (lv' := [(0, .ref x0), (1, .int x1), (2, .int x2), (3, .int (x3 + (1 : Int32)))]) [1, 2, 3, 0] rfl ?_
            refine z_pc (pc' := 4) rfl ?_
            exact hk (x2, (x3 + (1 : Int32)))
          · refine z_iinc (v := (x2 + (1 : Int32))) (lv' := [(2, .int (x2 + (1 : Int32))), (0, .ref x0), (1, .int x1), (3, .int x3)]) 2 dX1_countOpenWithoutCar_42 rfl (zi_inc _ zi_1) (Nat.le_of_ble_eq_true rfl) rfl (z_iinc (v := (x3 + (1 : Int32))) (lv' := [(3, .int (x3 + (1 : Int32))), (2, .int (x2 + (1 : Int32))), (0, .ref x0), (1, .int x1)]) 3 dX1_countOpenWithoutCar_45 rfl (zi_inc _ zi_1) (Nat.le_of_ble_eq_true rfl) rfl (z_goto 4 dX1_countOpenWithoutCar_48 rfl ?_))
            refine z_sub (lv' := [(0, .ref x0), (1, .int x1), (2, .int (x2 + (1 : Int32))), (3, .int (x3 + (1 : Int32)))]) [2, 3, 1, 0] rfl ?_
            refine z_pc (pc' := 4) rfl ?_
            exact hk ((x2 + (1 : Int32)), (x3 + (1 : Int32)))

def f_X1_countOpenWithoutCar (S : Zs) (w : Zw) (a0 : Nat) (a1 : Int32) : Option (Int32) :=
  f_X1_countOpenWithoutCar_l4 S w a0 a1 ((0 : Int32), (0 : Int32))
theorem mw_X1_countOpenWithoutCar {E : ZE} {S : Zs} (hW : zWF S) (w : Zw) (a0 : Nat) (h0 : zObj S a0 1) (a1 : Int32) : zOk (E, i_X1_countOpenWithoutCar, 2) 0 0 S w 0 [(0, .ref a0), (1, .int a1)] [] (emP eI S w) (f_X1_countOpenWithoutCar S w a0 a1) := by
  unfold f_X1_countOpenWithoutCar
  refine z_iconst dX1_countOpenWithoutCar_0 zi_0 (z_istore_n (lv' := [(2, .int (0 : Int32)), (0, .ref a0), (1, .int a1)]) dX1_countOpenWithoutCar_1 (Nat.le_of_ble_eq_true rfl) rfl (z_iconst dX1_countOpenWithoutCar_2 zi_0 (z_istore_n (lv' := [(3, .int (0 : Int32)), (2, .int (0 : Int32)), (0, .ref a0), (1, .int a1)]) dX1_countOpenWithoutCar_3 (Nat.le_of_ble_eq_true rfl) rfl ?_)))
  refine z_sub (lv' := [(0, .ref a0), (1, .int a1), (2, .int (0 : Int32)), (3, .int (0 : Int32))]) [2, 3, 1, 0] rfl ?_
  refine z_pc (pc' := 4) rfl ?_
  exact m_X1_countOpenWithoutCar_l4 hW w a0 h0 a1 ((0 : Int32), (0 : Int32))

theorem m_X1_countOpenWithoutCar {E : ZE} {S : Zs} (hW : zWF S) (w : Zw) (a0 : Nat) (h0 : zObj S a0 1) (a1 : Int32) : ∀ i, f_X1_countOpenWithoutCar S w a0 a1 = some i → zMr E yX1_countOpenWithoutCar cX1_countOpenWithoutCar 4 ((some .int)) 2 0 0 [.ref a0, .int a1] S w ((emP eI S w) i) :=
  fun i hi => z_enter (by decide +kernel) (Nat.le_of_ble_eq_true rfl) (mw_X1_countOpenWithoutCar hW w a0 h0 a1 i hi)
/-! ParkingRobot$Garage.countClosed ()I : P, depth 0 -/
abbrev i_X1_countClosed : Zm := (yX1_countClosed.cls, cX1_countClosed, 3, (some .int), [], yX1_countClosed.name)
def f_X1_countClosed_b4 (S : Zs) (w : Zw) (x0 : Nat) (k : (Int32 × Int32) → Option (Int32)) (x1 : Int32) (x2 : Int32) : Option (Int32) :=
  if (60 : Int32) ≤ x2 then some x1 else if zin x2 (zlen S (zr S x0 0)) = true then if (w (zr S x0 0) (zix x2)) = 0 then k (x1, (x2 + (1 : Int32))) else k ((x1 + (1 : Int32)), (x2 + (1 : Int32))) else none
def f_X1_countClosed_l4 (S : Zs) (w : Zw) (x0 : Nat) (a : Int32 × Int32) : Option (Int32) :=
  zlp (fun k a => f_X1_countClosed_b4 S w x0 k a.1 a.2) zFU a
theorem m_X1_countClosed_l4 {E : ZE} {S : Zs} (hW : zWF S) (w : Zw) (x0 : Nat) (hx0 : zObj S x0 1) : ∀ a : Int32 × Int32, zOk (E, i_X1_countClosed, 0) 0 0 S w 4 [(0, .ref x0), (1, .int a.1), (2, .int a.2)] [] (emP eI S w) (f_X1_countClosed_l4 S w x0 a) := by
  intro a
  refine z_lp (P := fun _ => True) (W9 := fun a : Int32 × Int32 => w) (L9 := fun a : Int32 × Int32 => [(0, .ref x0), (1, .int a.1), (2, .int a.2)]) (T9 := fun _ => []) (fun k hk9 a _ => ?_) zFU a trivial
  have hk : ∀ a : Int32 × Int32, zOk (E, i_X1_countClosed, 0) 0 0 S w 4 [(0, .ref x0), (1, .int a.1), (2, .int a.2)] [] (emP eI S w) (k a) := fun a => hk9 a trivial
  clear hk9
  obtain ⟨x1, x2⟩ := a
  show zOk (E, i_X1_countClosed, 0) 0 0 S w 4 [(0, .ref x0), (1, .int x1), (2, .int x2)] [] (emP eI S w) (f_X1_countClosed_b4 S w x0 k x1 x2)
  unfold f_X1_countClosed_b4
  refine z_iload_n 2 dX1_countClosed_4 rfl (z_bipush dX1_countClosed_5 zb_60 ?_)
  refine z_icmp_ge 28 dX1_countClosed_7 rfl (fun q1 => ?_) (fun q1 => ?_)
  · refine z_iload_n 1 dX1_countClosed_28 rfl ?_
    exact z_iret zemP rfl dX1_countClosed_29
  · refine z_aload_n 0 dX1_countClosed_10 rfl (z_getR zc1 0 (by decide) rfl gw101 hx0 (zW_some hW hx0 0 rfl) dX1_countClosed_11 (z_iload_n 2 dX1_countClosed_14 rfl ?_))
    refine z_chk (fun c2 => ?_)
    refine z_zald (zW_arr hW hx0 0 1 rfl) c2 dX1_countClosed_15 ?_
    refine z_if_eq 22 dX1_countClosed_16 rfl (fun q3 => ?_) (fun q3 => ?_)
    · refine z_iinc (v := (x2 + (1 : Int32))) (lv' := [(2, .int (x2 + (1 : Int32))), (0, .ref x0), (1, .int x1)]) 2 dX1_countClosed_22 rfl (zi_inc _ zi_1) (Nat.le_of_ble_eq_true rfl) rfl (z_goto 4 dX1_countClosed_25 rfl ?_)
      refine z_sub (lv' := [(0, .ref x0), (1, .int x1), (2, .int (x2 + (1 : Int32)))]) [1, 2, 0] rfl ?_
      refine z_pc (pc' := 4) rfl ?_
      exact hk (x1, (x2 + (1 : Int32)))
    · refine z_iinc (v := (x1 + (1 : Int32))) (lv' := [(1, .int (x1 + (1 : Int32))), (0, .ref x0), (2, .int x2)]) 1 dX1_countClosed_19 rfl (zi_inc _ zi_1) (Nat.le_of_ble_eq_true rfl) rfl (z_iinc (v := (x2 + (1 : Int32))) (lv' := [(2, .int (x2 + (1 : Int32))), (1, .int (x1 + (1 : Int32))), (0, .ref x0)]) 2 dX1_countClosed_22 rfl (zi_inc _ zi_1) (Nat.le_of_ble_eq_true rfl) rfl (z_goto 4 dX1_countClosed_25 rfl ?_))
      refine z_sub (lv' := [(0, .ref x0), (1, .int (x1 + (1 : Int32))), (2, .int (x2 + (1 : Int32)))]) [2, 1, 0] rfl ?_
      refine z_pc (pc' := 4) rfl ?_
      exact hk ((x1 + (1 : Int32)), (x2 + (1 : Int32)))

def f_X1_countClosed (S : Zs) (w : Zw) (a0 : Nat) : Option (Int32) :=
  f_X1_countClosed_l4 S w a0 ((0 : Int32), (0 : Int32))
theorem mw_X1_countClosed {E : ZE} {S : Zs} (hW : zWF S) (w : Zw) (a0 : Nat) (h0 : zObj S a0 1) : zOk (E, i_X1_countClosed, 0) 0 0 S w 0 [(0, .ref a0)] [] (emP eI S w) (f_X1_countClosed S w a0) := by
  unfold f_X1_countClosed
  refine z_iconst dX1_countClosed_0 zi_0 (z_istore_n (lv' := [(1, .int (0 : Int32)), (0, .ref a0)]) dX1_countClosed_1 (Nat.le_of_ble_eq_true rfl) rfl (z_iconst dX1_countClosed_2 zi_0 (z_istore_n (lv' := [(2, .int (0 : Int32)), (1, .int (0 : Int32)), (0, .ref a0)]) dX1_countClosed_3 (Nat.le_of_ble_eq_true rfl) rfl ?_)))
  refine z_sub (lv' := [(0, .ref a0), (1, .int (0 : Int32)), (2, .int (0 : Int32))]) [2, 1, 0] rfl ?_
  refine z_pc (pc' := 4) rfl ?_
  exact m_X1_countClosed_l4 hW w a0 h0 ((0 : Int32), (0 : Int32))

theorem m_X1_countClosed {E : ZE} {S : Zs} (hW : zWF S) (w : Zw) (a0 : Nat) (h0 : zObj S a0 1) : ∀ i, f_X1_countClosed S w a0 = some i → zMr E yX1_countClosed cX1_countClosed 3 ((some .int)) 0 0 0 [.ref a0] S w ((emP eI S w) i) :=
  fun i hi => z_enter (by decide +kernel) (Nat.le_of_ble_eq_true rfl) (mw_X1_countClosed hW w a0 h0 i hi)
/-! ParkingRobot$Garage.isStored (I)Z : P, depth 0 -/
abbrev i_X1_isStored : Zm := (yX1_isStored.cls, cX1_isStored, 2, (some .boolean), [], yX1_isStored.name)
def f_X1_isStored (S : Zs) (w : Zw) (a0 : Nat) (a1 : Int32) : Option (Int32) :=
  if a1 < 0 then some (0 : Int32) else if (w a0 8) ≤ a1 then some (0 : Int32) else if zin a1 (zlen S (zr S a0 4)) = true then if (w (zr S a0 4) (zix a1)) = (-1 : Int32) then some (0 : Int32) else some (1 : Int32) else none
theorem mw_X1_isStored {E : ZE} {S : Zs} (hW : zWF S) (w : Zw) (a0 : Nat) (h0 : zObj S a0 1) (a1 : Int32) : zOk (E, i_X1_isStored, 0) 0 0 S w 0 [(0, .ref a0), (1, .int a1)] [] (emP eI S w) (f_X1_isStored S w a0 a1) := by
  unfold f_X1_isStored
  refine z_iload_n 1 dX1_isStored_0 rfl ?_
  refine z_if_lt 26 dX1_isStored_1 rfl (fun q1 => ?_) (fun q1 => ?_)
  · refine z_iconst dX1_isStored_26 zi_0 ?_
    exact z_zret zemP rfl rfl dX1_isStored_27
  · refine z_iload_n 1 dX1_isStored_4 rfl (z_aload_n 0 dX1_isStored_5 rfl (z_getI zc1 8 (by decide) rfl gw109 h0 dX1_isStored_6 ?_))
    refine z_icmp_ge 26 dX1_isStored_9 rfl (fun q2 => ?_) (fun q2 => ?_)
    · refine z_iconst dX1_isStored_26 zi_0 ?_
      exact z_zret zemP rfl rfl dX1_isStored_27
    · refine z_aload_n 0 dX1_isStored_12 rfl (z_getR zc1 4 (by decide) rfl gw105 h0 (zW_some hW h0 4 rfl) dX1_isStored_13 (z_iload_n 1 dX1_isStored_16 rfl ?_))
      refine z_chk (fun c3 => ?_)
      refine z_iald (zW_arr hW h0 4 0 rfl) c3 dX1_isStored_17 (z_iconst dX1_isStored_18 zi_m1 ?_)
      refine z_icmp_eq 26 dX1_isStored_19 rfl (fun q4 => ?_) (fun q4 => ?_)
      · refine z_iconst dX1_isStored_26 zi_0 ?_
        exact z_zret zemP rfl rfl dX1_isStored_27
      · refine z_iconst dX1_isStored_22 zi_1 (z_goto 27 dX1_isStored_23 rfl ?_)
        exact z_zret zemP rfl rfl dX1_isStored_27

theorem m_X1_isStored {E : ZE} {S : Zs} (hW : zWF S) (w : Zw) (a0 : Nat) (h0 : zObj S a0 1) (a1 : Int32) : ∀ i, f_X1_isStored S w a0 a1 = some i → zMr E yX1_isStored cX1_isStored 2 ((some .boolean)) 0 0 0 [.ref a0, .int a1] S w ((emP eI S w) i) :=
  fun i hi => z_enter (by decide +kernel) (Nat.le_of_ble_eq_true rfl) (mw_X1_isStored hW w a0 h0 a1 i hi)
/-! ParkingRobot$Garage.blockerOf (I)I : P, depth 2 -/
abbrev i_X1_blockerOf : Zm := (yX1_blockerOf.cls, cX1_blockerOf, 2, (some .int), [], yX1_blockerOf.name)
def f_X1_blockerOf (S : Zs) (w : Zw) (a0 : Nat) (a1 : Int32) : Option (Int32) :=
  (f_X1_isStored S w a0 a1).bind fun v1 => if v1 = 0 then some (-1 : Int32) else if zin a1 (zlen S (zr S a0 4)) = true then (f_X1_carBefore S w a0 (w (zr S a0 4) (zix a1))).bind fun v5 => some v5 else none
theorem mw_X1_blockerOf {E : ZE} {S : Zs} (hW : zWF S) (w : Zw) (a0 : Nat) (h0 : zObj S a0 1) (a1 : Int32) : zOk (E, i_X1_blockerOf, 2) 0 0 S w 0 [(0, .ref a0), (1, .int a1)] [] (emP eI S w) (f_X1_blockerOf S w a0 a1) := by
  unfold f_X1_blockerOf
  refine z_aload_n 0 dX1_blockerOf_0 rfl (z_iload_n 1 dX1_blockerOf_1 rfl ?_)
  refine z_bind (fun v1 hb2 => ?_)
  refine z_callV (kc' := 0) (ks' := 0) (v := (some (.int v1))) (S1 := S) (w1 := w) (st := []) [.int a1] (m_X1_isStored hW w a0 h0 a1 v1 hb2) zc1 h0 zy_X1_isStored gw282 gw283 gw281 (Nat.le_of_ble_eq_true rfl) (Nat.le_of_ble_eq_true rfl) (Nat.le_of_ble_eq_true rfl) (Nat.le_of_ble_eq_true rfl) (zal hW) rfl dX1_blockerOf_2 (z_at 5 _ [.int v1] rfl rfl rfl ?_)
  refine z_if_eq 21 dX1_blockerOf_5 rfl (fun q3 => ?_) (fun q3 => ?_)
  · refine z_iconst dX1_blockerOf_21 zi_m1 ?_
    exact z_iret zemP rfl dX1_blockerOf_22
  · refine z_aload_n 0 dX1_blockerOf_8 rfl (z_aload_n 0 dX1_blockerOf_9 rfl (z_getR zc1 4 (by decide) rfl gw105 h0 (zW_some hW h0 4 rfl) dX1_blockerOf_10 (z_iload_n 1 dX1_blockerOf_13 rfl ?_)))
    refine z_chk (fun c4 => ?_)
    refine z_iald (zW_arr hW h0 4 0 rfl) c4 dX1_blockerOf_14 ?_
    refine z_bind (fun v5 hb6 => ?_)
    refine z_callV (kc' := 0) (ks' := 0) (v := (some (.int v5))) (S1 := S) (w1 := w) (st := []) [.int (w (zr S a0 4) (zix a1))] (m_X1_carBefore hW w a0 h0 (w (zr S a0 4) (zix a1)) v5 hb6) zc1 h0 zy_X1_carBefore gw286 gw287 gw285 (Nat.le_of_ble_eq_true rfl) (Nat.le_of_ble_eq_true rfl) (Nat.le_of_ble_eq_true rfl) (Nat.le_of_ble_eq_true rfl) (zal hW) rfl dX1_blockerOf_15 (z_at 18 _ [.int v5] rfl rfl rfl ?_)
    refine z_goto 22 dX1_blockerOf_18 rfl ?_
    exact z_iret zemP rfl dX1_blockerOf_22

theorem m_X1_blockerOf {E : ZE} {S : Zs} (hW : zWF S) (w : Zw) (a0 : Nat) (h0 : zObj S a0 1) (a1 : Int32) : ∀ i, f_X1_blockerOf S w a0 a1 = some i → zMr E yX1_blockerOf cX1_blockerOf 2 ((some .int)) 2 0 0 [.ref a0, .int a1] S w ((emP eI S w) i) :=
  fun i hi => z_enter (by decide +kernel) (Nat.le_of_ble_eq_true rfl) (mw_X1_blockerOf hW w a0 h0 a1 i hi)
/-! ParkingRobot$Garage.blockedCars (Z)J : P, depth 3 -/
abbrev i_X1_blockedCars : Zm := (yX1_blockedCars.cls, cX1_blockedCars, 6, (some .long), [], yX1_blockedCars.name)
def f_X1_blockedCars_j49 (S : Zs) (w : Zw) (x0 : Nat) (x1 : Int32) (x2 : Int64) (x4 : Int32) (k5 : (Int64 × Int32) → Option (Int64)) : Option (Int64) :=
  zlet (x2 ||| (zlshl (1 : Int64) x4)) fun z6 => k5 (z6, (x4 + (1 : Int32)))
theorem m_X1_blockedCars_j49 {E : ZE} {S : Zs} (hW : zWF S) (w : Zw) (x0 : Nat) (hx0 : zObj S x0 1) (x1 : Int32) (x2 : Int64) (x4 : Int32) (k5 : (Int64 × Int32) → Option (Int64)) (hk5 : ∀ a : Int64 × Int32, zOk (E, i_X1_blockedCars, 3) 0 0 S w 5 [(0, .ref x0), (1, .int x1), (2, .long a.1), (4, .int a.2)] [] (emP eL S w) (k5 a)) : zOk (E, i_X1_blockedCars, 3) 0 0 S w 49 [(0, .ref x0), (1, .int x1), (2, .long x2), (4, .int x4)] [] (emP eL S w) (f_X1_blockedCars_j49 S w x0 x1 x2 x4 k5) := by
  unfold f_X1_blockedCars_j49
  refine z_lload_n 2 dX1_blockedCars_49 rfl (z_lconst dX1_blockedCars_50 zl_1 (z_iload 3 dX1_blockedCars_51 rfl (z_lshl (v := (zlshl (1 : Int64) x4)) dX1_blockedCars_53 rfl (z_lor dX1_blockedCars_54 ?_))))
  refine z_let (a := (x2 ||| (zlshl (1 : Int64) x4))) (fun z6 => [(0, .ref x0), (1, .int x1), (2, .long x2), (4, .int x4)]) (fun z6 => .long z6 :: []) (fun z6 => ?_)
  refine z_lstore_n (lv' := [(2, .long z6), (0, .ref x0), (1, .int x1), (4, .int x4)]) dX1_blockedCars_55 (Nat.le_of_ble_eq_true rfl) rfl (z_iinc (v := (x4 + (1 : Int32))) (lv' := [(4, .int (x4 + (1 : Int32))), (2, .long z6), (0, .ref x0), (1, .int x1)]) 3 dX1_blockedCars_56 rfl (zi_inc _ zi_1) (Nat.le_of_ble_eq_true rfl) rfl (z_goto 5 dX1_blockedCars_59 rfl ?_))
  refine z_sub (lv' := [(0, .ref x0), (1, .int x1), (2, .long z6), (4, .int (x4 + (1 : Int32)))]) [2, 3, 1, 0] rfl ?_
  refine z_pc (pc' := 5) rfl ?_
  exact hk5 (z6, (x4 + (1 : Int32)))

def f_X1_blockedCars_b5 (S : Zs) (w : Zw) (x0 : Nat) (x1 : Int32) (k : (Int64 × Int32) → Option (Int64)) (x2 : Int64) (x4 : Int32) : Option (Int64) :=
  if (w x0 8) ≤ x4 then some x2 else (f_X1_blockerOf S w x0 x4).bind fun v2 => if v2 = (-1 : Int32) then k (x2, (x4 + (1 : Int32))) else if x1 = 0 then f_X1_blockedCars_j49 S w x0 x1 x2 x4 k  else if zin x4 (zlen S (zr S x0 3)) = true then if zin v2 (zlen S (zr S x0 3)) = true then if (w (zr S x0 3) (zix v2)) ≤ (w (zr S x0 3) (zix x4)) then k (x2, (x4 + (1 : Int32))) else f_X1_blockedCars_j49 S w x0 x1 x2 x4 k  else none else none
def f_X1_blockedCars_l5 (S : Zs) (w : Zw) (x0 : Nat) (x1 : Int32) (a : Int64 × Int32) : Option (Int64) :=
  zlp (fun k a => f_X1_blockedCars_b5 S w x0 x1 k a.1 a.2) zFU a
theorem m_X1_blockedCars_l5 {E : ZE} {S : Zs} (hW : zWF S) (w : Zw) (x0 : Nat) (hx0 : zObj S x0 1) (x1 : Int32) : ∀ a : Int64 × Int32, zOk (E, i_X1_blockedCars, 3) 0 0 S w 5 [(0, .ref x0), (1, .int x1), (2, .long a.1), (4, .int a.2)] [] (emP eL S w) (f_X1_blockedCars_l5 S w x0 x1 a) := by
  intro a
  refine z_lp (P := fun _ => True) (W9 := fun a : Int64 × Int32 => w) (L9 := fun a : Int64 × Int32 => [(0, .ref x0), (1, .int x1), (2, .long a.1), (4, .int a.2)]) (T9 := fun _ => []) (fun k hk9 a _ => ?_) zFU a trivial
  have hk : ∀ a : Int64 × Int32, zOk (E, i_X1_blockedCars, 3) 0 0 S w 5 [(0, .ref x0), (1, .int x1), (2, .long a.1), (4, .int a.2)] [] (emP eL S w) (k a) := fun a => hk9 a trivial
  clear hk9
  obtain ⟨x2, x4⟩ := a
  show zOk (E, i_X1_blockedCars, 3) 0 0 S w 5 [(0, .ref x0), (1, .int x1), (2, .long x2), (4, .int x4)] [] (emP eL S w) (f_X1_blockedCars_b5 S w x0 x1 k x2 x4)
  unfold f_X1_blockedCars_b5
  refine z_iload 3 dX1_blockedCars_5 rfl (z_aload_n 0 dX1_blockedCars_7 rfl (z_getI zc1 8 (by decide) rfl gw109 hx0 dX1_blockedCars_8 ?_))
  refine z_icmp_ge 62 dX1_blockedCars_11 rfl (fun q1 => ?_) (fun q1 => ?_)
  · refine z_lload_n 2 dX1_blockedCars_62 rfl ?_
    exact z_lret zemP rfl dX1_blockedCars_63
  · refine z_aload_n 0 dX1_blockedCars_14 rfl (z_iload 3 dX1_blockedCars_15 rfl ?_)
    refine z_bind (fun v2 hb3 => ?_)
    refine z_callV (kc' := 0) (ks' := 0) (v := (some (.int v2))) (S1 := S) (w1 := w) (st := []) [.int x4] (m_X1_blockerOf hW w x0 hx0 x4 v2 hb3) zc1 hx0 zy_X1_blockerOf gw278 gw279 gw277 (Nat.le_of_ble_eq_true rfl) (Nat.le_of_ble_eq_true rfl) (Nat.le_of_ble_eq_true rfl) (Nat.le_of_ble_eq_true rfl) (zal hW) rfl dX1_blockedCars_17 (z_at 20 _ [.int v2] rfl rfl rfl ?_)
    refine z_istore (lv' := [(5, .int v2), (0, .ref x0), (1, .int x1), (2, .long x2), (4, .int x4)]) dX1_blockedCars_20 (Nat.le_of_ble_eq_true rfl) rfl (z_iload 0 dX1_blockedCars_22 rfl (z_iconst dX1_blockedCars_24 zi_m1 ?_))
    refine z_icmp_eq 56 dX1_blockedCars_25 rfl (fun q4 => ?_) (fun q4 => ?_)
    · refine z_iinc (v := (x4 + (1 : Int32))) (lv' := [(4, .int (x4 + (1 : Int32))), (5, .int v2), (0, .ref x0), (1, .int x1), (2, .long x2)]) 4 dX1_blockedCars_56 rfl (zi_inc _ zi_1) (Nat.le_of_ble_eq_true rfl) rfl (z_goto 5 dX1_blockedCars_59 rfl ?_)
      refine z_sub (lv' := [(0, .ref x0), (1, .int x1), (2, .long x2), (4, .int (x4 + (1 : Int32)))]) [2, 3, 4, 0] rfl ?_
      refine z_pc (pc' := 5) rfl ?_
      exact hk (x2, (x4 + (1 : Int32)))
    · refine z_iload_n 2 dX1_blockedCars_28 rfl ?_
      refine z_if_eq 49 dX1_blockedCars_29 rfl (fun q5 => ?_) (fun q5 => ?_)
      · refine z_sub (lv' := [(0, .ref x0), (1, .int x1), (2, .long x2), (4, .int x4)]) [1, 2, 3, 4] rfl ?_
        refine z_pc (pc' := 49) rfl ?_
        exact m_X1_blockedCars_j49 hW w x0 hx0 x1 x2 x4 k hk 
      · refine z_aload_n 1 dX1_blockedCars_32 rfl (z_getR zc1 3 (by decide) rfl gw104 hx0 (zW_some hW hx0 3 rfl) dX1_blockedCars_33 (z_iload 4 dX1_blockedCars_36 rfl ?_))
        refine z_chk (fun c7 => ?_)
        refine z_iald (zW_arr hW hx0 3 0 rfl) c7 dX1_blockedCars_38 (z_aload_n 1 dX1_blockedCars_39 rfl (z_getR zc1 3 (by decide) rfl gw104 hx0 (zW_some hW hx0 3 rfl) dX1_blockedCars_40 (z_iload 0 dX1_blockedCars_43 rfl ?_)))
        refine z_chk (fun c8 => ?_)
        refine z_iald (zW_arr hW hx0 3 0 rfl) c8 dX1_blockedCars_45 ?_
        refine z_icmp_ge 56 dX1_blockedCars_46 rfl (fun q9 => ?_) (fun q9 => ?_)
        · refine z_iinc (v := (x4 + (1 : Int32))) (lv' := [(4, .int (x4 + (1 : Int32))), (5, .int v2), (0, .ref x0), (1, .int x1), (2, .long x2)]) 4 dX1_blockedCars_56 rfl (zi_inc _ zi_1) (Nat.le_of_ble_eq_true rfl) rfl (z_goto 5 dX1_blockedCars_59 rfl ?_)
          refine z_sub (lv' := [(0, .ref x0), (1, .int x1), (2, .long x2), (4, .int (x4 + (1 : Int32)))]) [2, 3, 4, 0] rfl ?_
          refine z_pc (pc' := 5) rfl ?_
          exact hk (x2, (x4 + (1 : Int32)))
        · refine z_sub (lv' := [(0, .ref x0), (1, .int x1), (2, .long x2), (4, .int x4)]) [1, 2, 3, 4] rfl ?_
          refine z_pc (pc' := 49) rfl ?_
          exact m_X1_blockedCars_j49 hW w x0 hx0 x1 x2 x4 k hk 

def f_X1_blockedCars (S : Zs) (w : Zw) (a0 : Nat) (a1 : Int32) : Option (Int64) :=
  f_X1_blockedCars_l5 S w a0 a1 ((0 : Int64), (0 : Int32))
theorem mw_X1_blockedCars {E : ZE} {S : Zs} (hW : zWF S) (w : Zw) (a0 : Nat) (h0 : zObj S a0 1) (a1 : Int32) : zOk (E, i_X1_blockedCars, 3) 0 0 S w 0 [(0, .ref a0), (1, .int a1)] [] (emP eL S w) (f_X1_blockedCars S w a0 a1) := by
  unfold f_X1_blockedCars
  refine z_lconst dX1_blockedCars_0 zl_0 (z_lstore_n (lv' := [(2, .long (0 : Int64)), (0, .ref a0), (1, .int a1)]) dX1_blockedCars_1 (Nat.le_of_ble_eq_true rfl) rfl (z_iconst dX1_blockedCars_2 zi_0 (z_istore (lv' := [(4, .int (0 : Int32)), (2, .long (0 : Int64)), (0, .ref a0), (1, .int a1)]) dX1_blockedCars_3 (Nat.le_of_ble_eq_true rfl) rfl ?_)))
  refine z_sub (lv' := [(0, .ref a0), (1, .int a1), (2, .long (0 : Int64)), (4, .int (0 : Int32))]) [2, 3, 1, 0] rfl ?_
  refine z_pc (pc' := 5) rfl ?_
  exact m_X1_blockedCars_l5 hW w a0 h0 a1 ((0 : Int64), (0 : Int32))

theorem m_X1_blockedCars {E : ZE} {S : Zs} (hW : zWF S) (w : Zw) (a0 : Nat) (h0 : zObj S a0 1) (a1 : Int32) : ∀ i, f_X1_blockedCars S w a0 a1 = some i → zMr E yX1_blockedCars cX1_blockedCars 6 ((some .long)) 3 0 0 [.ref a0, .int a1] S w ((emP eL S w) i) :=
  fun i hi => z_enter (by decide +kernel) (Nat.le_of_ble_eq_true rfl) (mw_X1_blockedCars hW w a0 h0 a1 i hi)
/-! ParkingRobot.bays (I)I : X, depth 6 -/
abbrev i_X7_bays : Zm := (yX7_bays.cls, cX7_bays, 2, (some .int), [], yX7_bays.name)
def f_X7_bays (S : Zs) (w : Zw) (a0 : Nat) (a1 : Int32) : Option ((Int32 ⊕ String) × Zw) :=
  if a1 = (0 : Int32) then (some (.inl (f_X1_countStored S w (zr S a0 0)), w)) else if a1 = (1 : Int32) then ((f_X1_countOpenWithoutCar S w (zr S a0 0) (0 : Int32)).bind fun v3 => some (.inl v3, w)) else if a1 = (2 : Int32) then ((f_X1_countOpenWithoutCar S w (zr S a0 0) (1 : Int32)).bind fun v6 => some (.inl v6, w)) else if a1 = (3 : Int32) then ((f_X1_countClosed S w (zr S a0 0)).bind fun v9 => some (.inl v9, w)) else if a1 = (4 : Int32) then ((f_X1_blockedCars S w (zr S a0 0) (0 : Int32)).bind fun v12 => some (.inl (f_J13_bitCount_95d88 v12), w)) else if a1 = (5 : Int32) then ((f_X1_blockedCars S w (zr S a0 0) (1 : Int32)).bind fun v15 => some (.inl (f_J13_bitCount_95d88 v15), w)) else (some (.inr "java/lang/IllegalArgumentException", w))
theorem mw_X7_bays {E : ZE} {S : Zs} (hW : zWF S) (w : Zw) (a0 : Nat) (h0 : zObj S a0 7) (a1 : Int32) : zOk (E, i_X7_bays, 6) 1 6 S w 0 [(0, .ref a0), (1, .int a1)] [] (emX eI S) (f_X7_bays S w a0 a1) := by
  unfold f_X7_bays
  refine z_iload_n 1 dX7_bays_0 rfl ?_
  refine z_ite _ (fun q1 => ?_) (fun q1 => ?_)
  · refine z_tabIn (off := 39) 40 dX7_bays_1 (by rw [q1]; decide) (by rw [q1]; decide) (by rw [q1]; decide) rfl ?_
    refine z_aload_n 0 dX7_bays_40 rfl (z_getR zc7 0 (by decide) rfl gw216 h0 (zW_some hW h0 0 rfl) dX7_bays_41 ?_)
    refine z_callV (kc' := 1) (ks' := 6) (v := (some (.int (f_X1_countStored S w (zr S a0 0))))) (S1 := S) (w1 := w) (st := []) [] (m_X1_countStored hW w (zr S a0 0) (zW_obj hW h0 0 1 rfl)) zc1 (zW_obj hW h0 0 1 rfl) zy_X1_countStored gw407 gw408 gw406 (Nat.le_of_ble_eq_true rfl) (Nat.le_of_ble_eq_true rfl) (Nat.le_of_ble_eq_true rfl) (Nat.le_of_ble_eq_true rfl) (zal hW) rfl dX7_bays_44 (z_at 47 _ [.int (f_X1_countStored S w (zr S a0 0))] rfl rfl rfl ?_)
    exact z_iret zemX rfl dX7_bays_47
  refine z_ite _ (fun q2 => ?_) (fun q2 => ?_)
  · refine z_tabIn (off := 47) 48 dX7_bays_1 (by rw [q2]; decide) (by rw [q2]; decide) (by rw [q2]; decide) rfl ?_
    refine z_aload_n 0 dX7_bays_48 rfl (z_getR zc7 0 (by decide) rfl gw216 h0 (zW_some hW h0 0 rfl) dX7_bays_49 (z_iconst dX7_bays_52 zi_0 ?_))
    refine z_bind (fun v3 hb4 => ?_)
    refine z_callV (kc' := 1) (ks' := 6) (v := (some (.int v3))) (S1 := S) (w1 := w) (st := []) [.int (0 : Int32)] (m_X1_countOpenWithoutCar hW w (zr S a0 0) (zW_obj hW h0 0 1 rfl) (0 : Int32) v3 hb4) zc1 (zW_obj hW h0 0 1 rfl) zy_X1_countOpenWithoutCar gw611 gw612 gw610 (Nat.le_of_ble_eq_true rfl) (Nat.le_of_ble_eq_true rfl) (Nat.le_of_ble_eq_true rfl) (Nat.le_of_ble_eq_true rfl) (zal hW) rfl dX7_bays_53 (z_at 56 _ [.int v3] rfl rfl rfl ?_)
    exact z_iret zemX rfl dX7_bays_56
  refine z_ite _ (fun q5 => ?_) (fun q5 => ?_)
  · refine z_tabIn (off := 56) 57 dX7_bays_1 (by rw [q5]; decide) (by rw [q5]; decide) (by rw [q5]; decide) rfl ?_
    refine z_aload_n 0 dX7_bays_57 rfl (z_getR zc7 0 (by decide) rfl gw216 h0 (zW_some hW h0 0 rfl) dX7_bays_58 (z_iconst dX7_bays_61 zi_1 ?_))
    refine z_bind (fun v6 hb7 => ?_)
    refine z_callV (kc' := 1) (ks' := 6) (v := (some (.int v6))) (S1 := S) (w1 := w) (st := []) [.int (1 : Int32)] (m_X1_countOpenWithoutCar hW w (zr S a0 0) (zW_obj hW h0 0 1 rfl) (1 : Int32) v6 hb7) zc1 (zW_obj hW h0 0 1 rfl) zy_X1_countOpenWithoutCar gw611 gw612 gw610 (Nat.le_of_ble_eq_true rfl) (Nat.le_of_ble_eq_true rfl) (Nat.le_of_ble_eq_true rfl) (Nat.le_of_ble_eq_true rfl) (zal hW) rfl dX7_bays_62 (z_at 65 _ [.int v6] rfl rfl rfl ?_)
    exact z_iret zemX rfl dX7_bays_65
  refine z_ite _ (fun q8 => ?_) (fun q8 => ?_)
  · refine z_tabIn (off := 65) 66 dX7_bays_1 (by rw [q8]; decide) (by rw [q8]; decide) (by rw [q8]; decide) rfl ?_
    refine z_aload_n 0 dX7_bays_66 rfl (z_getR zc7 0 (by decide) rfl gw216 h0 (zW_some hW h0 0 rfl) dX7_bays_67 ?_)
    refine z_bind (fun v9 hb10 => ?_)
    refine z_callV (kc' := 1) (ks' := 6) (v := (some (.int v9))) (S1 := S) (w1 := w) (st := []) [] (m_X1_countClosed hW w (zr S a0 0) (zW_obj hW h0 0 1 rfl) v9 hb10) zc1 (zW_obj hW h0 0 1 rfl) zy_X1_countClosed gw746 gw747 gw745 (Nat.le_of_ble_eq_true rfl) (Nat.le_of_ble_eq_true rfl) (Nat.le_of_ble_eq_true rfl) (Nat.le_of_ble_eq_true rfl) (zal hW) rfl dX7_bays_70 (z_at 73 _ [.int v9] rfl rfl rfl ?_)
    exact z_iret zemX rfl dX7_bays_73
  refine z_ite _ (fun q11 => ?_) (fun q11 => ?_)
  · refine z_tabIn (off := 73) 74 dX7_bays_1 (by rw [q11]; decide) (by rw [q11]; decide) (by rw [q11]; decide) rfl ?_
    refine z_aload_n 0 dX7_bays_74 rfl (z_getR zc7 0 (by decide) rfl gw216 h0 (zW_some hW h0 0 rfl) dX7_bays_75 (z_iconst dX7_bays_78 zi_0 ?_))
    refine z_bind (fun v12 hb13 => ?_)
    refine z_callV (kc' := 1) (ks' := 6) (v := (some (.long v12))) (S1 := S) (w1 := w) (st := []) [.int (0 : Int32)] (m_X1_blockedCars hW w (zr S a0 0) (zW_obj hW h0 0 1 rfl) (0 : Int32) v12 hb13) zc1 (zW_obj hW h0 0 1 rfl) zy_X1_blockedCars gw274 gw275 gw749 (Nat.le_of_ble_eq_true rfl) (Nat.le_of_ble_eq_true rfl) (Nat.le_of_ble_eq_true rfl) (Nat.le_of_ble_eq_true rfl) (zal hW) rfl dX7_bays_79 (z_at 82 _ [.long v12] rfl rfl rfl ?_)
    refine z_callS (kc' := 1) (ks' := 6) (v := (some (.int (f_J13_bitCount_95d88 v12)))) (S1 := S) (w1 := w) (st := []) [.long v12] (m_J13_bitCount_95d88 hW w v12) zy_J13_bitCount_95d88 gw751 gw750 (Nat.le_of_ble_eq_true rfl) (Nat.le_of_ble_eq_true rfl) (Nat.le_of_ble_eq_true rfl) (Nat.le_of_ble_eq_true rfl) (zal hW) rfl dX7_bays_82 (z_at 85 _ [.int (f_J13_bitCount_95d88 v12)] rfl rfl rfl ?_)
    exact z_iret zemX rfl dX7_bays_85
  refine z_ite _ (fun q14 => ?_) (fun q14 => ?_)
  · refine z_tabIn (off := 85) 86 dX7_bays_1 (by rw [q14]; decide) (by rw [q14]; decide) (by rw [q14]; decide) rfl ?_
    refine z_aload_n 0 dX7_bays_86 rfl (z_getR zc7 0 (by decide) rfl gw216 h0 (zW_some hW h0 0 rfl) dX7_bays_87 (z_iconst dX7_bays_90 zi_1 ?_))
    refine z_bind (fun v15 hb16 => ?_)
    refine z_callV (kc' := 1) (ks' := 6) (v := (some (.long v15))) (S1 := S) (w1 := w) (st := []) [.int (1 : Int32)] (m_X1_blockedCars hW w (zr S a0 0) (zW_obj hW h0 0 1 rfl) (1 : Int32) v15 hb16) zc1 (zW_obj hW h0 0 1 rfl) zy_X1_blockedCars gw274 gw275 gw749 (Nat.le_of_ble_eq_true rfl) (Nat.le_of_ble_eq_true rfl) (Nat.le_of_ble_eq_true rfl) (Nat.le_of_ble_eq_true rfl) (zal hW) rfl dX7_bays_91 (z_at 94 _ [.long v15] rfl rfl rfl ?_)
    refine z_callS (kc' := 1) (ks' := 6) (v := (some (.int (f_J13_bitCount_95d88 v15)))) (S1 := S) (w1 := w) (st := []) [.long v15] (m_J13_bitCount_95d88 hW w v15) zy_J13_bitCount_95d88 gw751 gw750 (Nat.le_of_ble_eq_true rfl) (Nat.le_of_ble_eq_true rfl) (Nat.le_of_ble_eq_true rfl) (Nat.le_of_ble_eq_true rfl) (zal hW) rfl dX7_bays_94 (z_at 97 _ [.int (f_J13_bitCount_95d88 v15)] rfl rfl rfl ?_)
    exact z_iret zemX rfl dX7_bays_97
  refine z_tabOut 98 dX7_bays_1 ?_ rfl ?_
  · have n0 := zsw_ne (k := 0) (0 : Int32) (by decide) q1; have n1 := zsw_ne (k := 1) (1 : Int32) (by decide) q2; have n2 := zsw_ne (k := 2) (2 : Int32) (by decide) q5; have n3 := zsw_ne (k := 3) (3 : Int32) (by decide) q8; have n4 := zsw_ne (k := 4) (4 : Int32) (by decide) q11; have n5 := zsw_ne (k := 5) (5 : Int32) (by decide) q14; omega
  exact z_throw zx_IAE gw427 zt_RX7_180 (Nat.le_of_ble_eq_true rfl) (Nat.le_of_ble_eq_true rfl) (Nat.le_of_ble_eq_true rfl) rfl (Nat.le_of_ble_eq_true rfl) zemXr dX7_bays_98 dX7_bays_101 dX7_bays_102 dX7_bays_104 dX7_bays_107

theorem m_X7_bays {E : ZE} {S : Zs} (hW : zWF S) (w : Zw) (a0 : Nat) (h0 : zObj S a0 7) (a1 : Int32) : ∀ i, f_X7_bays S w a0 a1 = some i → zMx E yX7_bays cX7_bays 2 ((some .int)) 6 1 6 [.ref a0, .int a1] S w ((emX eI S) i) :=
  fun i hi => z_enterX (by decide +kernel) (Nat.le_of_ble_eq_true rfl) (mw_X7_bays hW w a0 h0 a1 i hi)
/-! ParkingRobot$Garage.storedUntil (I)J : P, depth 1 -/
abbrev i_X1_storedUntil : Zm := (yX1_storedUntil.cls, cX1_storedUntil, 5, (some .long), [], yX1_storedUntil.name)
def f_X1_storedUntil_b5 (S : Zs) (w : Zw) (x0 : Nat) (x1 : Int32) (k : (Int64 × Int32) → Option (Int64)) (x2 : Int64) (x4 : Int32) : Option (Int64) :=
  if (w x0 8) ≤ x4 then some x2 else (f_X1_isStored S w x0 x4).bind fun v2 => if v2 = 0 then k (x2, (x4 + (1 : Int32))) else if zin x4 (zlen S (zr S x0 3)) = true then if x1 < (w (zr S x0 3) (zix x4)) then k (x2, (x4 + (1 : Int32))) else (zlet (x2 ||| (zlshl (1 : Int64) x4)) fun z7 => k (z7, (x4 + (1 : Int32)))) else none
def f_X1_storedUntil_l5 (S : Zs) (w : Zw) (x0 : Nat) (x1 : Int32) (a : Int64 × Int32) : Option (Int64) :=
  zlp (fun k a => f_X1_storedUntil_b5 S w x0 x1 k a.1 a.2) zFU a
theorem m_X1_storedUntil_l5 {E : ZE} {S : Zs} (hW : zWF S) (w : Zw) (x0 : Nat) (hx0 : zObj S x0 1) (x1 : Int32) : ∀ a : Int64 × Int32, zOk (E, i_X1_storedUntil, 1) 0 0 S w 5 [(0, .ref x0), (1, .int x1), (2, .long a.1), (4, .int a.2)] [] (emP eL S w) (f_X1_storedUntil_l5 S w x0 x1 a) := by
  intro a
  refine z_lp (P := fun _ => True) (W9 := fun a : Int64 × Int32 => w) (L9 := fun a : Int64 × Int32 => [(0, .ref x0), (1, .int x1), (2, .long a.1), (4, .int a.2)]) (T9 := fun _ => []) (fun k hk9 a _ => ?_) zFU a trivial
  have hk : ∀ a : Int64 × Int32, zOk (E, i_X1_storedUntil, 1) 0 0 S w 5 [(0, .ref x0), (1, .int x1), (2, .long a.1), (4, .int a.2)] [] (emP eL S w) (k a) := fun a => hk9 a trivial
  clear hk9
  obtain ⟨x2, x4⟩ := a
  show zOk (E, i_X1_storedUntil, 1) 0 0 S w 5 [(0, .ref x0), (1, .int x1), (2, .long x2), (4, .int x4)] [] (emP eL S w) (f_X1_storedUntil_b5 S w x0 x1 k x2 x4)
  unfold f_X1_storedUntil_b5
  refine z_iload 3 dX1_storedUntil_5 rfl (z_aload_n 0 dX1_storedUntil_7 rfl (z_getI zc1 8 (by decide) rfl gw109 hx0 dX1_storedUntil_8 ?_))
  refine z_icmp_ge 47 dX1_storedUntil_11 rfl (fun q1 => ?_) (fun q1 => ?_)
  · refine z_lload_n 2 dX1_storedUntil_47 rfl ?_
    exact z_lret zemP rfl dX1_storedUntil_48
  · refine z_aload_n 0 dX1_storedUntil_14 rfl (z_iload 3 dX1_storedUntil_15 rfl ?_)
    refine z_bind (fun v2 hb3 => ?_)
    refine z_callV (kc' := 0) (ks' := 0) (v := (some (.int v2))) (S1 := S) (w1 := w) (st := []) [.int x4] (m_X1_isStored hW w x0 hx0 x4 v2 hb3) zc1 hx0 zy_X1_isStored gw282 gw283 gw281 (Nat.le_of_ble_eq_true rfl) (Nat.le_of_ble_eq_true rfl) (Nat.le_of_ble_eq_true rfl) (Nat.le_of_ble_eq_true rfl) (zal hW) rfl dX1_storedUntil_17 (z_at 20 _ [.int v2] rfl rfl rfl ?_)
    refine z_if_eq 41 dX1_storedUntil_20 rfl (fun q4 => ?_) (fun q4 => ?_)
    · refine z_iinc (v := (x4 + (1 : Int32))) (lv' := [(4, .int (x4 + (1 : Int32))), (0, .ref x0), (1, .int x1), (2, .long x2)]) 3 dX1_storedUntil_41 rfl (zi_inc _ zi_1) (Nat.le_of_ble_eq_true rfl) rfl (z_goto 5 dX1_storedUntil_44 rfl ?_)
      refine z_sub (lv' := [(0, .ref x0), (1, .int x1), (2, .long x2), (4, .int (x4 + (1 : Int32)))]) [1, 2, 3, 0] rfl ?_
      refine z_pc (pc' := 5) rfl ?_
      exact hk (x2, (x4 + (1 : Int32)))
    · refine z_aload_n 0 dX1_storedUntil_23 rfl (z_getR zc1 3 (by decide) rfl gw104 hx0 (zW_some hW hx0 3 rfl) dX1_storedUntil_24 (z_iload 3 dX1_storedUntil_27 rfl ?_))
      refine z_chk (fun c5 => ?_)
      refine z_iald (zW_arr hW hx0 3 0 rfl) c5 dX1_storedUntil_29 (z_iload_n 1 dX1_storedUntil_30 rfl ?_)
      refine z_icmp_gt 41 dX1_storedUntil_31 rfl (fun q6 => ?_) (fun q6 => ?_)
      · refine z_iinc (v := (x4 + (1 : Int32))) (lv' := [(4, .int (x4 + (1 : Int32))), (0, .ref x0), (1, .int x1), (2, .long x2)]) 3 dX1_storedUntil_41 rfl (zi_inc _ zi_1) (Nat.le_of_ble_eq_true rfl) rfl (z_goto 5 dX1_storedUntil_44 rfl ?_)
        refine z_sub (lv' := [(0, .ref x0), (1, .int x1), (2, .long x2), (4, .int (x4 + (1 : Int32)))]) [1, 2, 3, 0] rfl ?_
        refine z_pc (pc' := 5) rfl ?_
        exact hk (x2, (x4 + (1 : Int32)))
      · refine z_lload_n 2 dX1_storedUntil_34 rfl (z_lconst dX1_storedUntil_35 zl_1 (z_iload 3 dX1_storedUntil_36 rfl (z_lshl (v := (zlshl (1 : Int64) x4)) dX1_storedUntil_38 rfl (z_lor dX1_storedUntil_39 ?_))))
        refine z_let (a := (x2 ||| (zlshl (1 : Int64) x4))) (fun z7 => [(0, .ref x0), (1, .int x1), (2, .long x2), (4, .int x4)]) (fun z7 => .long z7 :: []) (fun z7 => ?_)
        refine z_lstore_n (lv' := [(2, .long z7), (0, .ref x0), (1, .int x1), (4, .int x4)]) dX1_storedUntil_40 (Nat.le_of_ble_eq_true rfl) rfl (z_iinc (v := (x4 + (1 : Int32))) (lv' := [(4, .int (x4 + (1 : Int32))), (2, .long z7), (0, .ref x0), (1, .int x1)]) 3 dX1_storedUntil_41 rfl (zi_inc _ zi_1) (Nat.le_of_ble_eq_true rfl) rfl (z_goto 5 dX1_storedUntil_44 rfl ?_))
        refine z_sub (lv' := [(0, .ref x0), (1, .int x1), (2, .long z7), (4, .int (x4 + (1 : Int32)))]) [2, 3, 1, 0] rfl ?_
        refine z_pc (pc' := 5) rfl ?_
        exact hk (z7, (x4 + (1 : Int32)))

def f_X1_storedUntil (S : Zs) (w : Zw) (a0 : Nat) (a1 : Int32) : Option (Int64) :=
  f_X1_storedUntil_l5 S w a0 a1 ((0 : Int64), (0 : Int32))
theorem mw_X1_storedUntil {E : ZE} {S : Zs} (hW : zWF S) (w : Zw) (a0 : Nat) (h0 : zObj S a0 1) (a1 : Int32) : zOk (E, i_X1_storedUntil, 1) 0 0 S w 0 [(0, .ref a0), (1, .int a1)] [] (emP eL S w) (f_X1_storedUntil S w a0 a1) := by
  unfold f_X1_storedUntil
  refine z_lconst dX1_storedUntil_0 zl_0 (z_lstore_n (lv' := [(2, .long (0 : Int64)), (0, .ref a0), (1, .int a1)]) dX1_storedUntil_1 (Nat.le_of_ble_eq_true rfl) rfl (z_iconst dX1_storedUntil_2 zi_0 (z_istore (lv' := [(4, .int (0 : Int32)), (2, .long (0 : Int64)), (0, .ref a0), (1, .int a1)]) dX1_storedUntil_3 (Nat.le_of_ble_eq_true rfl) rfl ?_)))
  refine z_sub (lv' := [(0, .ref a0), (1, .int a1), (2, .long (0 : Int64)), (4, .int (0 : Int32))]) [2, 3, 1, 0] rfl ?_
  refine z_pc (pc' := 5) rfl ?_
  exact m_X1_storedUntil_l5 hW w a0 h0 a1 ((0 : Int64), (0 : Int32))

theorem m_X1_storedUntil {E : ZE} {S : Zs} (hW : zWF S) (w : Zw) (a0 : Nat) (h0 : zObj S a0 1) (a1 : Int32) : ∀ i, f_X1_storedUntil S w a0 a1 = some i → zMr E yX1_storedUntil cX1_storedUntil 5 ((some .long)) 1 0 0 [.ref a0, .int a1] S w ((emP eL S w) i) :=
  fun i hi => z_enter (by decide +kernel) (Nat.le_of_ble_eq_true rfl) (mw_X1_storedUntil hW w a0 h0 a1 i hi)
/-! ParkingRobot.checkSet (J)V : X, depth 6 -/
abbrev i_X7_checkSet : Zm := (yX7_checkSet.cls, cX7_checkSet, 3, none, [], yX7_checkSet.name)
def f_X7_checkSet_j27 (S : Zs) (w : Zw) : Option ((Unit ⊕ String) × Zw) :=
  some (.inr "java/lang/IndexOutOfBoundsException", w)
theorem m_X7_checkSet_j27 {E : ZE} {S : Zs} (hW : zWF S) (w : Zw) : zOk (E, i_X7_checkSet, 6) 1 6 S w 27 [] [] (emX eU S) (f_X7_checkSet_j27 S w) := by
  unfold f_X7_checkSet_j27
  exact z_throwW zx_IOE gw580 zt_RX7_372 (Nat.le_of_ble_eq_true rfl) (Nat.le_of_ble_eq_true rfl) (Nat.le_of_ble_eq_true rfl) rfl (Nat.le_of_ble_eq_true rfl) zemXr dX7_checkSet_27 dX7_checkSet_30 dX7_checkSet_31 dX7_checkSet_34 dX7_checkSet_37

def f_X7_checkSet (S : Zs) (w : Zw) (a0 : Nat) (a1 : Int64) : Option ((Unit ⊕ String) × Zw) :=
  if (lg_cmp a1 (0 : Int64)) = 0 then f_X7_checkSet_j27 S w  else (f_X1_storedUntil S w (zr S a0 0) (9999 : Int32)).bind fun v2 => if (lg_cmp (a1 &&& (v2 ^^^ (-1 : Int64))) (0 : Int64)) = 0 then (if (f_J13_bitCount_95d88 a1) ≤ (5 : Int32) then some (.inl (), w) else some (.inr "java/lang/IllegalArgumentException", w)) else f_X7_checkSet_j27 S w 
theorem mw_X7_checkSet {E : ZE} {S : Zs} (hW : zWF S) (w : Zw) (a0 : Nat) (h0 : zObj S a0 7) (a1 : Int64) : zOk (E, i_X7_checkSet, 6) 1 6 S w 0 [(0, .ref a0), (1, .long a1)] [] (emX eU S) (f_X7_checkSet S w a0 a1) := by
  unfold f_X7_checkSet
  refine z_lload_n 1 dX7_checkSet_0 rfl (z_lconst dX7_checkSet_1 zl_0 (z_lcmp dX7_checkSet_2 ?_))
  refine z_if_eq 27 dX7_checkSet_3 rfl (fun q1 => ?_) (fun q1 => ?_)
  · refine z_sub (lv' := []) [] rfl ?_
    refine z_pc (pc' := 27) rfl ?_
    exact m_X7_checkSet_j27 hW w 
  · refine z_lload_n 1 dX7_checkSet_6 rfl (z_aload_n 0 dX7_checkSet_7 rfl (z_getR zc7 0 (by decide) rfl gw216 h0 (zW_some hW h0 0 rfl) dX7_checkSet_8 (z_sipush dX7_checkSet_11 zs_9999 ?_)))
    refine z_bind (fun v2 hb3 => ?_)
    refine z_callV (kc' := 1) (ks' := 6) (v := (some (.long v2))) (S1 := S) (w1 := w) (st := [.long a1]) [.int (9999 : Int32)] (m_X1_storedUntil hW w (zr S a0 0) (zW_obj hW h0 0 1 rfl) (9999 : Int32) v2 hb3) zc1 (zW_obj hW h0 0 1 rfl) zy_X1_storedUntil gw663 gw664 gw662 (Nat.le_of_ble_eq_true rfl) (Nat.le_of_ble_eq_true rfl) (Nat.le_of_ble_eq_true rfl) (Nat.le_of_ble_eq_true rfl) (zal hW) rfl dX7_checkSet_14 (z_at 17 _ [.long v2, .long a1] rfl rfl rfl ?_)
    refine z_ldc2 dX7_checkSet_17 gw768 (z_lxor dX7_checkSet_20 (z_land dX7_checkSet_21 (z_lconst dX7_checkSet_22 zl_0 (z_lcmp dX7_checkSet_23 ?_))))
    refine z_if_eq 38 dX7_checkSet_24 rfl (fun q4 => ?_) (fun q4 => ?_)
    · refine z_lload_n 1 dX7_checkSet_38 rfl ?_
      refine z_callS (kc' := 1) (ks' := 6) (v := (some (.int (f_J13_bitCount_95d88 a1)))) (S1 := S) (w1 := w) (st := []) [.long a1] (m_J13_bitCount_95d88 hW w a1) zy_J13_bitCount_95d88 gw751 gw750 (Nat.le_of_ble_eq_true rfl) (Nat.le_of_ble_eq_true rfl) (Nat.le_of_ble_eq_true rfl) (Nat.le_of_ble_eq_true rfl) (zal hW) rfl dX7_checkSet_39 (z_at 42 _ [.int (f_J13_bitCount_95d88 a1)] rfl rfl rfl ?_)
      refine z_iconst dX7_checkSet_42 zi_5 ?_
      refine z_icmp_le 57 dX7_checkSet_43 rfl (fun q5 => ?_) (fun q5 => ?_)
      · exact z_vret zemX rfl dX7_checkSet_57
      · exact z_throwW zx_IAE gw427 zt_RX7_374 (Nat.le_of_ble_eq_true rfl) (Nat.le_of_ble_eq_true rfl) (Nat.le_of_ble_eq_true rfl) rfl (Nat.le_of_ble_eq_true rfl) zemXr dX7_checkSet_46 dX7_checkSet_49 dX7_checkSet_50 dX7_checkSet_53 dX7_checkSet_56
    · refine z_sub (lv' := []) [] rfl ?_
      refine z_pc (pc' := 27) rfl ?_
      exact m_X7_checkSet_j27 hW w 

theorem m_X7_checkSet {E : ZE} {S : Zs} (hW : zWF S) (w : Zw) (a0 : Nat) (h0 : zObj S a0 7) (a1 : Int64) : ∀ i, f_X7_checkSet S w a0 a1 = some i → zMx E yX7_checkSet cX7_checkSet 3 none 6 1 6 [.ref a0, .long a1] S w ((emX eU S) i) :=
  fun i hi => z_enterX (by decide +kernel) (Nat.le_of_ble_eq_true rfl) (mw_X7_checkSet hW w a0 h0 a1 i hi)
/-! ParkingRobot$Machine.copyFrom (LParkingRobot$Machine;)V : W, depth 0 -/
abbrev i_X4_copyFrom : Zm := (yX4_copyFrom.cls, cX4_copyFrom, 2, none, [], yX4_copyFrom.name)
def f_X4_copyFrom (S : Zs) (w : Zw) (a0 : Nat) (a1 : Nat) : Option (Unit × Zw) :=
  zlet (zput w a0 1 (w a1 1)) fun w1 => zlet (zput w1 a0 2 (w1 a1 2)) fun w2 => zlet (zput w2 a0 3 (w2 a1 3)) fun w3 => some ((), w3)
theorem mw_X4_copyFrom {E : ZE} {S : Zs} (hW : zWF S) (w : Zw) (a0 : Nat) (h0 : zObj S a0 4) (a1 : Nat) (h1 : zObj S a1 4) : zOk (E, i_X4_copyFrom, 0) 0 0 S w 0 [(0, .ref a0), (1, .ref a1)] [] (emW eU S) (f_X4_copyFrom S w a0 a1) := by
  unfold f_X4_copyFrom
  refine z_aload_n 0 dX4_copyFrom_0 rfl (z_aload_n 1 dX4_copyFrom_1 rfl (z_getI zc4 1 (by decide) rfl gw52 h1 dX4_copyFrom_2 ?_))
  refine z_putI zc4 1 (by decide) (Or.inl rfl) rfl gw52 h0 dX4_copyFrom_5 (z_letw (fun w1 => ?_))
  refine z_aload_n 0 dX4_copyFrom_8 rfl (z_aload_n 1 dX4_copyFrom_9 rfl (z_getI zc4 2 (by decide) rfl gw53 h1 dX4_copyFrom_10 ?_))
  refine z_putI zc4 2 (by decide) (Or.inl rfl) rfl gw53 h0 dX4_copyFrom_13 (z_letw (fun w2 => ?_))
  refine z_aload_n 0 dX4_copyFrom_16 rfl (z_aload_n 1 dX4_copyFrom_17 rfl (z_getI zc4 3 (by decide) rfl gw54 h1 dX4_copyFrom_18 ?_))
  refine z_putI zc4 3 (by decide) (Or.inl rfl) rfl gw54 h0 dX4_copyFrom_21 (z_letw (fun w3 => ?_))
  exact z_vret zemW rfl dX4_copyFrom_24

theorem m_X4_copyFrom {E : ZE} {S : Zs} (hW : zWF S) (w : Zw) (a0 : Nat) (h0 : zObj S a0 4) (a1 : Nat) (h1 : zObj S a1 4) : ∀ i, f_X4_copyFrom S w a0 a1 = some i → zMr E yX4_copyFrom cX4_copyFrom 2 none 0 0 0 [.ref a0, .ref a1] S w ((emW eU S) i) :=
  fun i hi => z_enter (by decide +kernel) (Nat.le_of_ble_eq_true rfl) (mw_X4_copyFrom hW w a0 h0 a1 h1 i hi)
/-! ParkingRobot$JobLog.copyFrom (LParkingRobot$JobLog;)V : W, depth 6 -/
abbrev i_X3_copyFrom : Zm := (yX3_copyFrom.cls, cX3_copyFrom, 2, none, [], yX3_copyFrom.name)
def f_X3_copyFrom (S : Zs) (w : Zw) (a0 : Nat) (a1 : Nat) : Option (Unit × Zw) :=
  if zcpk S w 0 (zr S a1 0) (zr S a0 0) (0 : Int32) (0 : Int32) (Int32.ofNat (zlen S (zr S a0 0))) = true then zlet (zcpy w (zr S a1 0) (zr S a0 0) (0 : Int32) (0 : Int32) (Int32.ofNat (zlen S (zr S a0 0)))) fun w2 => zlet (zput w2 a0 1 (w2 a1 1)) fun w3 => zlet (zput w3 a0 2 (w3 a1 2)) fun w4 => zlet (zput w4 a0 3 (w4 a1 3)) fun w5 => some ((), w5) else none
theorem mw_X3_copyFrom {E : ZE} {S : Zs} (hW : zWF S) (w : Zw) (a0 : Nat) (h0 : zObj S a0 3) (a1 : Nat) (h1 : zObj S a1 3) : zOk (E, i_X3_copyFrom, 6) 0 0 S w 0 [(0, .ref a0), (1, .ref a1)] [] (emW eU S) (f_X3_copyFrom S w a0 a1) := by
  unfold f_X3_copyFrom
  refine z_aload_n 1 dX3_copyFrom_0 rfl (z_getR zc3 0 (by decide) rfl gw72 h1 (zW_some hW h1 0 rfl) dX3_copyFrom_1 (z_iconst dX3_copyFrom_4 zi_0 (z_aload_n 0 dX3_copyFrom_5 rfl (z_getR zc3 0 (by decide) rfl gw72 h0 (zW_some hW h0 0 rfl) dX3_copyFrom_6 (z_iconst dX3_copyFrom_9 zi_0 ?_)))))
  refine z_aload_n 0 dX3_copyFrom_10 rfl (z_getR zc3 0 (by decide) rfl gw72 h0 (zW_some hW h0 0 rfl) dX3_copyFrom_11 (z_alen (t := 0) (by decide) (zW_arr hW h0 0 0 rfl) dX3_copyFrom_14 ?_))
  refine z_chk (fun c1 => ?_)
  refine z_copy 0 (Or.inl rfl) (zW_arr hW h1 0 0 rfl) (zW_arr hW h0 0 0 rfl) c1 gw268 (Nat.le_of_ble_eq_true rfl) (Nat.le_of_ble_eq_true rfl) dX3_copyFrom_15 (z_letw (fun w2 => ?_))
  refine z_aload_n 0 dX3_copyFrom_18 rfl (z_aload_n 1 dX3_copyFrom_19 rfl (z_getI zc3 1 (by decide) rfl gw73 h1 dX3_copyFrom_20 ?_))
  refine z_putI zc3 1 (by decide) (Or.inl rfl) rfl gw73 h0 dX3_copyFrom_23 (z_letw (fun w3 => ?_))
  refine z_aload_n 0 dX3_copyFrom_26 rfl (z_aload_n 1 dX3_copyFrom_27 rfl (z_getI zc3 2 (by decide) rfl gw74 h1 dX3_copyFrom_28 ?_))
  refine z_putI zc3 2 (by decide) (Or.inl rfl) rfl gw74 h0 dX3_copyFrom_31 (z_letw (fun w4 => ?_))
  refine z_aload_n 0 dX3_copyFrom_34 rfl (z_aload_n 1 dX3_copyFrom_35 rfl (z_getI zc3 3 (by decide) rfl gw75 h1 dX3_copyFrom_36 ?_))
  refine z_putI zc3 3 (by decide) (Or.inl rfl) rfl gw75 h0 dX3_copyFrom_39 (z_letw (fun w5 => ?_))
  exact z_vret zemW rfl dX3_copyFrom_42

theorem m_X3_copyFrom {E : ZE} {S : Zs} (hW : zWF S) (w : Zw) (a0 : Nat) (h0 : zObj S a0 3) (a1 : Nat) (h1 : zObj S a1 3) : ∀ i, f_X3_copyFrom S w a0 a1 = some i → zMr E yX3_copyFrom cX3_copyFrom 2 none 6 0 0 [.ref a0, .ref a1] S w ((emW eU S) i) :=
  fun i hi => z_enter (by decide +kernel) (Nat.le_of_ble_eq_true rfl) (mw_X3_copyFrom hW w a0 h0 a1 h1 i hi)
/-! ParkingRobot$Plant.copyFrom (LParkingRobot$Plant;)V : W, depth 7 -/
abbrev i_X6_copyFrom : Zm := (yX6_copyFrom.cls, cX6_copyFrom, 3, none, [], yX6_copyFrom.name)
def f_X6_copyFrom_b2 (S : Zs) (x0 : Nat) (x1 : Nat) (k : (Int32 × Zw) → Option (Unit × Zw)) (x2 : Int32) (w : Zw) : Option (Unit × Zw) :=
  if (4 : Int32) ≤ x2 then (f_X3_copyFrom S w (zr S x0 2) (zr S x1 2)).bind fun r2 => zlet (zput r2.2 x0 3 (r2.2 x1 3)) fun w4 => some ((), w4) else if zin x2 (zlen S (zr S x0 0)) = true then if zin x2 (zlen S (zr S x1 0)) = true then (f_X4_copyFrom S w (zr S (zr S x0 0) (zix x2)) (zr S (zr S x1 0) (zix x2))).bind fun r7 => k ((x2 + (1 : Int32)), r7.2) else none else none
def f_X6_copyFrom_l2 (S : Zs) (x0 : Nat) (x1 : Nat) (a : Int32 × Zw) : Option (Unit × Zw) :=
  zlp (fun k a => f_X6_copyFrom_b2 S x0 x1 k a.1 a.2) zFU a
theorem m_X6_copyFrom_l2 {E : ZE} {S : Zs} (hW : zWF S) (x0 : Nat) (hx0 : zObj S x0 6) (x1 : Nat) (hx1 : zObj S x1 6) : ∀ a : Int32 × Zw, zOk (E, i_X6_copyFrom, 7) 0 0 S a.2 2 [(0, .ref x0), (1, .ref x1), (2, .int a.1)] [] (emW eU S) (f_X6_copyFrom_l2 S x0 x1 a) := by
  intro a
  refine z_lp (P := fun _ => True) (W9 := fun a : Int32 × Zw => a.2) (L9 := fun a : Int32 × Zw => [(0, .ref x0), (1, .ref x1), (2, .int a.1)]) (T9 := fun _ => []) (fun k hk9 a _ => ?_) zFU a trivial
  have hk : ∀ a : Int32 × Zw, zOk (E, i_X6_copyFrom, 7) 0 0 S a.2 2 [(0, .ref x0), (1, .ref x1), (2, .int a.1)] [] (emW eU S) (k a) := fun a => hk9 a trivial
  clear hk9
  obtain ⟨x2, w⟩ := a
  show zOk (E, i_X6_copyFrom, 7) 0 0 S w 2 [(0, .ref x0), (1, .ref x1), (2, .int x2)] [] (emW eU S) (f_X6_copyFrom_b2 S x0 x1 k x2 w)
  unfold f_X6_copyFrom_b2
  refine z_iload_n 2 dX6_copyFrom_2 rfl (z_iconst dX6_copyFrom_3 zi_4 ?_)
  refine z_icmp_ge 28 dX6_copyFrom_4 rfl (fun q1 => ?_) (fun q1 => ?_)
  · refine z_aload_n 0 dX6_copyFrom_28 rfl (z_getR zc6 2 (by decide) rfl gw88 hx0 (zW_some hW hx0 2 rfl) dX6_copyFrom_29 (z_aload_n 1 dX6_copyFrom_32 rfl (z_getR zc6 2 (by decide) rfl gw88 hx1 (zW_some hW hx1 2 rfl) dX6_copyFrom_33 ?_)))
    refine z_bind (fun r2 hb3 => ?_)
    refine z_callV (kc' := 0) (ks' := 0) (v := none) (S1 := S) (w1 := r2.2) (st := []) [.ref (zr S x1 2)] (m_X3_copyFrom hW w (zr S x0 2) (zW_obj hW hx0 2 3 rfl) (zr S x1 2) (zW_obj hW hx1 2 3 rfl) r2 hb3) zc3 (zW_obj hW hx0 2 3 rfl) zy_X3_copyFrom gw265 gw266 gw264 (Nat.le_of_ble_eq_true rfl) (Nat.le_of_ble_eq_true rfl) (Nat.le_of_ble_eq_true rfl) (Nat.le_of_ble_eq_true rfl) (zal hW) rfl dX6_copyFrom_36 (z_at 39 _ [] rfl rfl rfl ?_)
    refine z_aload_n 0 dX6_copyFrom_39 rfl (z_aload_n 1 dX6_copyFrom_40 rfl (z_getI zc6 3 (by decide) rfl gw90 hx1 dX6_copyFrom_41 ?_))
    refine z_putI zc6 3 (by decide) (Or.inl rfl) rfl gw90 hx0 dX6_copyFrom_44 (z_letw (fun w4 => ?_))
    exact z_vret zemW rfl dX6_copyFrom_47
  · refine z_aload_n 0 dX6_copyFrom_7 rfl (z_getR zc6 0 (by decide) rfl gw85 hx0 (zW_some hW hx0 0 rfl) dX6_copyFrom_8 (z_iload_n 2 dX6_copyFrom_11 rfl ?_))
    refine z_chk (fun c5 => ?_)
    refine z_aald (Or.inl rfl) (zW_arr hW hx0 0 5 rfl) c5 (zW_el5 hW (zW_arr hW hx0 0 5 rfl) c5).1 dX6_copyFrom_12 (z_aload_n 1 dX6_copyFrom_13 rfl (z_getR zc6 0 (by decide) rfl gw85 hx1 (zW_some hW hx1 0 rfl) dX6_copyFrom_14 (z_iload_n 2 dX6_copyFrom_17 rfl ?_)))
    refine z_chk (fun c6 => ?_)
    refine z_aald (Or.inl rfl) (zW_arr hW hx1 0 5 rfl) c6 (zW_el5 hW (zW_arr hW hx1 0 5 rfl) c6).1 dX6_copyFrom_18 ?_
    refine z_bind (fun r7 hb8 => ?_)
    refine z_callV (kc' := 0) (ks' := 0) (v := none) (S1 := S) (w1 := r7.2) (st := []) [.ref (zr S (zr S x1 0) (zix x2))] (m_X4_copyFrom hW w (zr S (zr S x0 0) (zix x2)) (zW_el5 hW (zW_arr hW hx0 0 5 rfl) c5).2 (zr S (zr S x1 0) (zix x2)) (zW_el5 hW (zW_arr hW hx1 0 5 rfl) c6).2 r7 hb8) zc4 (zW_el5 hW (zW_arr hW hx0 0 5 rfl) c5).2 zy_X4_copyFrom gw261 gw262 gw260 (Nat.le_of_ble_eq_true rfl) (Nat.le_of_ble_eq_true rfl) (Nat.le_of_ble_eq_true rfl) (Nat.le_of_ble_eq_true rfl) (zal hW) rfl dX6_copyFrom_19 (z_at 22 _ [] rfl rfl rfl ?_)
    refine z_iinc (v := (x2 + (1 : Int32))) (lv' := [(2, .int (x2 + (1 : Int32))), (0, .ref x0), (1, .ref x1)]) 2 dX6_copyFrom_22 rfl (zi_inc _ zi_1) (Nat.le_of_ble_eq_true rfl) rfl (z_goto 2 dX6_copyFrom_25 rfl ?_)
    refine z_sub (lv' := [(0, .ref x0), (1, .ref x1), (2, .int (x2 + (1 : Int32)))]) [1, 2, 0] rfl ?_
    refine z_pc (pc' := 2) rfl ?_
    exact hk ((x2 + (1 : Int32)), r7.2)

def f_X6_copyFrom (S : Zs) (w : Zw) (a0 : Nat) (a1 : Nat) : Option (Unit × Zw) :=
  f_X6_copyFrom_l2 S a0 a1 ((0 : Int32), w)
theorem mw_X6_copyFrom {E : ZE} {S : Zs} (hW : zWF S) (w : Zw) (a0 : Nat) (h0 : zObj S a0 6) (a1 : Nat) (h1 : zObj S a1 6) : zOk (E, i_X6_copyFrom, 7) 0 0 S w 0 [(0, .ref a0), (1, .ref a1)] [] (emW eU S) (f_X6_copyFrom S w a0 a1) := by
  unfold f_X6_copyFrom
  refine z_iconst dX6_copyFrom_0 zi_0 (z_istore_n (lv' := [(2, .int (0 : Int32)), (0, .ref a0), (1, .ref a1)]) dX6_copyFrom_1 (Nat.le_of_ble_eq_true rfl) rfl ?_)
  refine z_sub (lv' := [(0, .ref a0), (1, .ref a1), (2, .int (0 : Int32))]) [1, 2, 0] rfl ?_
  refine z_pc (pc' := 2) rfl ?_
  exact m_X6_copyFrom_l2 hW a0 h0 a1 h1 ((0 : Int32), w)

theorem m_X6_copyFrom {E : ZE} {S : Zs} (hW : zWF S) (w : Zw) (a0 : Nat) (h0 : zObj S a0 6) (a1 : Nat) (h1 : zObj S a1 6) : ∀ i, f_X6_copyFrom S w a0 a1 = some i → zMr E yX6_copyFrom cX6_copyFrom 3 none 7 0 0 [.ref a0, .ref a1] S w ((emW eU S) i) :=
  fun i hi => z_enter (by decide +kernel) (Nat.le_of_ble_eq_true rfl) (mw_X6_copyFrom hW w a0 h0 a1 h1 i hi)
/-! ParkingRobot$Garage.copyFrom (LParkingRobot$Garage;)V : W, depth 8 -/
abbrev i_X1_copyFrom : Zm := (yX1_copyFrom.cls, cX1_copyFrom, 2, none, [], yX1_copyFrom.name)
def f_X1_copyFrom (S : Zs) (w : Zw) (a0 : Nat) (a1 : Nat) : Option (Unit × Zw) :=
  if zcpk S w 1 (zr S a1 0) (zr S a0 0) (0 : Int32) (0 : Int32) (60 : Int32) = true then zlet (zcpy w (zr S a1 0) (zr S a0 0) (0 : Int32) (0 : Int32) (60 : Int32)) fun w2 => if zcpk S w2 0 (zr S a1 1) (zr S a0 1) (0 : Int32) (0 : Int32) (60 : Int32) = true then zlet (zcpy w2 (zr S a1 1) (zr S a0 1) (0 : Int32) (0 : Int32) (60 : Int32)) fun w4 => if zcpk S w4 0 (zr S a1 2) (zr S a0 2) (0 : Int32) (0 : Int32) (40 : Int32) = true then zlet (zcpy w4 (zr S a1 2) (zr S a0 2) (0 : Int32) (0 : Int32) (40 : Int32)) fun w6 => if zcpk S w6 0 (zr S a1 3) (zr S a0 3) (0 : Int32) (0 : Int32) (40 : Int32) = true then zlet (zcpy w6 (zr S a1 3) (zr S a0 3) (0 : Int32) (0 : Int32) (40 : Int32)) fun w8 => if zcpk S w8 0 (zr S a1 4) (zr S a0 4) (0 : Int32) (0 : Int32) (40 : Int32) = true then zlet (zcpy w8 (zr S a1 4) (zr S a0 4) (0 : Int32) (0 : Int32) (40 : Int32)) fun w10 => if zcpk S w10 0 (zr S a1 5) (zr S a0 5) (0 : Int32) (0 : Int32) (40 : Int32) = true then zlet (zcpy w10 (zr S a1 5) (zr S a0 5) (0 : Int32) (0 : Int32) (40 : Int32)) fun w12 => (f_X6_copyFrom S w12 (zr S a0 7) (zr S a1 7)).bind fun r13 => zlet (zput r13.2 a0 8 (r13.2 a1 8)) fun w15 => zlet (zput w15 a0 9 (w15 a1 9)) fun w16 => zlet (zput w16 a0 10 (w16 a1 10)) fun w17 => some ((), w17) else none else none else none else none else none else none
theorem mw_X1_copyFrom {E : ZE} {S : Zs} (hW : zWF S) (w : Zw) (a0 : Nat) (h0 : zObj S a0 1) (a1 : Nat) (h1 : zObj S a1 1) : zOk (E, i_X1_copyFrom, 8) 0 0 S w 0 [(0, .ref a0), (1, .ref a1)] [] (emW eU S) (f_X1_copyFrom S w a0 a1) := by
  unfold f_X1_copyFrom
  refine z_aload_n 1 dX1_copyFrom_0 rfl (z_getR zc1 0 (by decide) rfl gw101 h1 (zW_some hW h1 0 rfl) dX1_copyFrom_1 (z_iconst dX1_copyFrom_4 zi_0 (z_aload_n 0 dX1_copyFrom_5 rfl (z_getR zc1 0 (by decide) rfl gw101 h0 (zW_some hW h0 0 rfl) dX1_copyFrom_6 (z_iconst dX1_copyFrom_9 zi_0 ?_)))))
  refine z_bipush dX1_copyFrom_10 zb_60 ?_
  refine z_chk (fun c1 => ?_)
  refine z_copy 1 (Or.inr (Or.inl rfl)) (zW_arr hW h1 0 1 rfl) (zW_arr hW h0 0 1 rfl) c1 gw253 (Nat.le_of_ble_eq_true rfl) (Nat.le_of_ble_eq_true rfl) dX1_copyFrom_12 (z_letw (fun w2 => ?_))
  refine z_aload_n 1 dX1_copyFrom_15 rfl (z_getR zc1 1 (by decide) rfl gw102 h1 (zW_some hW h1 1 rfl) dX1_copyFrom_16 (z_iconst dX1_copyFrom_19 zi_0 (z_aload_n 0 dX1_copyFrom_20 rfl (z_getR zc1 1 (by decide) rfl gw102 h0 (zW_some hW h0 1 rfl) dX1_copyFrom_21 (z_iconst dX1_copyFrom_24 zi_0 ?_)))))
  refine z_bipush dX1_copyFrom_25 zb_60 ?_
  refine z_chk (fun c3 => ?_)
  refine z_copy 0 (Or.inl rfl) (zW_arr hW h1 1 0 rfl) (zW_arr hW h0 1 0 rfl) c3 gw253 (Nat.le_of_ble_eq_true rfl) (Nat.le_of_ble_eq_true rfl) dX1_copyFrom_27 (z_letw (fun w4 => ?_))
  refine z_aload_n 1 dX1_copyFrom_30 rfl (z_getR zc1 2 (by decide) rfl gw103 h1 (zW_some hW h1 2 rfl) dX1_copyFrom_31 (z_iconst dX1_copyFrom_34 zi_0 (z_aload_n 0 dX1_copyFrom_35 rfl (z_getR zc1 2 (by decide) rfl gw103 h0 (zW_some hW h0 2 rfl) dX1_copyFrom_36 (z_iconst dX1_copyFrom_39 zi_0 ?_)))))
  refine z_bipush dX1_copyFrom_40 zb_40 ?_
  refine z_chk (fun c5 => ?_)
  refine z_copy 0 (Or.inl rfl) (zW_arr hW h1 2 0 rfl) (zW_arr hW h0 2 0 rfl) c5 gw253 (Nat.le_of_ble_eq_true rfl) (Nat.le_of_ble_eq_true rfl) dX1_copyFrom_42 (z_letw (fun w6 => ?_))
  refine z_aload_n 1 dX1_copyFrom_45 rfl (z_getR zc1 3 (by decide) rfl gw104 h1 (zW_some hW h1 3 rfl) dX1_copyFrom_46 (z_iconst dX1_copyFrom_49 zi_0 (z_aload_n 0 dX1_copyFrom_50 rfl (z_getR zc1 3 (by decide) rfl gw104 h0 (zW_some hW h0 3 rfl) dX1_copyFrom_51 (z_iconst dX1_copyFrom_54 zi_0 ?_)))))
  refine z_bipush dX1_copyFrom_55 zb_40 ?_
  refine z_chk (fun c7 => ?_)
  refine z_copy 0 (Or.inl rfl) (zW_arr hW h1 3 0 rfl) (zW_arr hW h0 3 0 rfl) c7 gw253 (Nat.le_of_ble_eq_true rfl) (Nat.le_of_ble_eq_true rfl) dX1_copyFrom_57 (z_letw (fun w8 => ?_))
  refine z_aload_n 1 dX1_copyFrom_60 rfl (z_getR zc1 4 (by decide) rfl gw105 h1 (zW_some hW h1 4 rfl) dX1_copyFrom_61 (z_iconst dX1_copyFrom_64 zi_0 (z_aload_n 0 dX1_copyFrom_65 rfl (z_getR zc1 4 (by decide) rfl gw105 h0 (zW_some hW h0 4 rfl) dX1_copyFrom_66 (z_iconst dX1_copyFrom_69 zi_0 ?_)))))
  refine z_bipush dX1_copyFrom_70 zb_40 ?_
  refine z_chk (fun c9 => ?_)
  refine z_copy 0 (Or.inl rfl) (zW_arr hW h1 4 0 rfl) (zW_arr hW h0 4 0 rfl) c9 gw253 (Nat.le_of_ble_eq_true rfl) (Nat.le_of_ble_eq_true rfl) dX1_copyFrom_72 (z_letw (fun w10 => ?_))
  refine z_aload_n 1 dX1_copyFrom_75 rfl (z_getR zc1 5 (by decide) rfl gw106 h1 (zW_some hW h1 5 rfl) dX1_copyFrom_76 (z_iconst dX1_copyFrom_79 zi_0 (z_aload_n 0 dX1_copyFrom_80 rfl (z_getR zc1 5 (by decide) rfl gw106 h0 (zW_some hW h0 5 rfl) dX1_copyFrom_81 (z_iconst dX1_copyFrom_84 zi_0 ?_)))))
  refine z_bipush dX1_copyFrom_85 zb_40 ?_
  refine z_chk (fun c11 => ?_)
  refine z_copy 0 (Or.inl rfl) (zW_arr hW h1 5 0 rfl) (zW_arr hW h0 5 0 rfl) c11 gw253 (Nat.le_of_ble_eq_true rfl) (Nat.le_of_ble_eq_true rfl) dX1_copyFrom_87 (z_letw (fun w12 => ?_))
  refine z_aload_n 0 dX1_copyFrom_90 rfl (z_getR zc1 7 (by decide) rfl gw108 h0 (zW_some hW h0 7 rfl) dX1_copyFrom_91 (z_aload_n 1 dX1_copyFrom_94 rfl (z_getR zc1 7 (by decide) rfl gw108 h1 (zW_some hW h1 7 rfl) dX1_copyFrom_95 ?_)))
  refine z_bind (fun r13 hb14 => ?_)
  refine z_callV (kc' := 0) (ks' := 0) (v := none) (S1 := S) (w1 := r13.2) (st := []) [.ref (zr S a1 7)] (m_X6_copyFrom hW w12 (zr S a0 7) (zW_obj hW h0 7 6 rfl) (zr S a1 7) (zW_obj hW h1 7 6 rfl) r13 hb14) zc6 (zW_obj hW h0 7 6 rfl) zy_X6_copyFrom gw257 gw258 gw256 (Nat.le_of_ble_eq_true rfl) (Nat.le_of_ble_eq_true rfl) (Nat.le_of_ble_eq_true rfl) (Nat.le_of_ble_eq_true rfl) (zal hW) rfl dX1_copyFrom_98 (z_at 101 _ [] rfl rfl rfl ?_)
  refine z_aload_n 0 dX1_copyFrom_101 rfl (z_aload_n 1 dX1_copyFrom_102 rfl (z_getI zc1 8 (by decide) rfl gw109 h1 dX1_copyFrom_103 ?_))
  refine z_putI zc1 8 (by decide) (Or.inl rfl) rfl gw109 h0 dX1_copyFrom_106 (z_letw (fun w15 => ?_))
  refine z_aload_n 0 dX1_copyFrom_109 rfl (z_aload_n 1 dX1_copyFrom_110 rfl (z_getI zc1 9 (by decide) rfl gw110 h1 dX1_copyFrom_111 ?_))
  refine z_putI zc1 9 (by decide) (Or.inl rfl) rfl gw110 h0 dX1_copyFrom_114 (z_letw (fun w16 => ?_))
  refine z_aload_n 0 dX1_copyFrom_117 rfl (z_aload_n 1 dX1_copyFrom_118 rfl (z_getI zc1 10 (by decide) rfl gw111 h1 dX1_copyFrom_119 ?_))
  refine z_putI zc1 10 (by decide) (Or.inl rfl) rfl gw111 h0 dX1_copyFrom_122 (z_letw (fun w17 => ?_))
  exact z_vret zemW rfl dX1_copyFrom_125

theorem m_X1_copyFrom {E : ZE} {S : Zs} (hW : zWF S) (w : Zw) (a0 : Nat) (h0 : zObj S a0 1) (a1 : Nat) (h1 : zObj S a1 1) : ∀ i, f_X1_copyFrom S w a0 a1 = some i → zMr E yX1_copyFrom cX1_copyFrom 2 none 8 0 0 [.ref a0, .ref a1] S w ((emW eU S) i) :=
  fun i hi => z_enter (by decide +kernel) (Nat.le_of_ble_eq_true rfl) (mw_X1_copyFrom hW w a0 h0 a1 h1 i hi)
/-! ParkingRobot$JobLog.total ()I : T, depth 0 -/
abbrev i_X3_total : Zm := (yX3_total.cls, cX3_total, 1, (some .int), [], yX3_total.name)
def f_X3_total (S : Zs) (w : Zw) (a0 : Nat) : Int32 :=
  (w a0 1)
theorem mw_X3_total {E : ZE} {S : Zs} (hW : zWF S) (w : Zw) (a0 : Nat) (h0 : zObj S a0 3) : zOk (E, i_X3_total, 0) 0 0 S w 0 [(0, .ref a0)] [] (emP eI S w) (some (f_X3_total S w a0)) := by
  unfold f_X3_total
  refine z_aload_n 0 dX3_total_0 rfl (z_getI zc3 1 (by decide) rfl gw73 h0 dX3_total_1 ?_)
  exact z_iret zemP rfl dX3_total_4

theorem m_X3_total {E : ZE} {S : Zs} (hW : zWF S) (w : Zw) (a0 : Nat) (h0 : zObj S a0 3) : zMr E yX3_total cX3_total 1 ((some .int)) 0 0 0 [.ref a0] S w (.inl (eI (f_X3_total S w a0)), S, w) :=
  z_enter (by decide +kernel) (Nat.le_of_ble_eq_true rfl) (mw_X3_total hW w a0 h0 _ rfl)
/-! ParkingRobot$Orders.begin (LParkingRobot$Garage;)V : W, depth 9 -/
abbrev i_X5_begin : Zm := (yX5_begin.cls, cX5_begin, 2, none, [], yX5_begin.name)
def f_X5_begin (S : Zs) (w : Zw) (a0 : Nat) (a1 : Nat) : Option (Unit × Zw) :=
  if zin (0 : Int32) (zlen S (zr S a0 0)) = true then (f_X1_copyFrom S w (zr S (zr S a0 0) (zix (0 : Int32))) a1).bind fun r2 => zlet (zput r2.2 a0 5 (f_X3_total S r2.2 (f_X1_log S r2.2 a1))) fun w4 => some ((), w4) else none
theorem mw_X5_begin {E : ZE} {S : Zs} (hW : zWF S) (w : Zw) (a0 : Nat) (h0 : zObj S a0 5) (a1 : Nat) (h1 : zObj S a1 1) : zOk (E, i_X5_begin, 9) 0 0 S w 0 [(0, .ref a0), (1, .ref a1)] [] (emW eU S) (f_X5_begin S w a0 a1) := by
  unfold f_X5_begin
  refine z_aload_n 0 dX5_begin_0 rfl (z_getR zc5 0 (by decide) rfl gw162 h0 (zW_some hW h0 0 rfl) dX5_begin_1 (z_iconst dX5_begin_4 zi_0 ?_))
  refine z_chk (fun c1 => ?_)
  refine z_aald (Or.inr rfl) (zW_arr hW h0 0 6 rfl) c1 (zW_el6 hW (zW_arr hW h0 0 6 rfl) c1).1 dX5_begin_5 (z_aload_n 1 dX5_begin_6 rfl ?_)
  refine z_bind (fun r2 hb3 => ?_)
  refine z_callV (kc' := 0) (ks' := 0) (v := none) (S1 := S) (w1 := r2.2) (st := []) [.ref a1] (m_X1_copyFrom hW w (zr S (zr S a0 0) (zix (0 : Int32))) (zW_el6 hW (zW_arr hW h0 0 6 rfl) c1).2 a1 h1 r2 hb3) zc1 (zW_el6 hW (zW_arr hW h0 0 6 rfl) c1).2 zy_X1_copyFrom gw250 gw251 gw779 (Nat.le_of_ble_eq_true rfl) (Nat.le_of_ble_eq_true rfl) (Nat.le_of_ble_eq_true rfl) (Nat.le_of_ble_eq_true rfl) (zal hW) rfl dX5_begin_7 (z_at 10 _ [] rfl rfl rfl ?_)
  refine z_aload_n 0 dX5_begin_10 rfl (z_aload_n 1 dX5_begin_11 rfl ?_)
  refine z_callV (kc' := 0) (ks' := 0) (v := (some (.ref (f_X1_log S r2.2 a1)))) (S1 := S) (w1 := r2.2) (st := [.ref a0]) [] (m_X1_log hW r2.2 a1 h1) zc1 h1 zy_X1_log gw393 gw394 gw780 (Nat.le_of_ble_eq_true rfl) (Nat.le_of_ble_eq_true rfl) (Nat.le_of_ble_eq_true rfl) (Nat.le_of_ble_eq_true rfl) (zal hW) rfl dX5_begin_12 (z_at 15 _ [.ref (f_X1_log S r2.2 a1), .ref a0] rfl rfl rfl ?_)
  refine z_callV (kc' := 0) (ks' := 0) (v := (some (.int (f_X3_total S r2.2 (f_X1_log S r2.2 a1))))) (S1 := S) (w1 := r2.2) (st := [.ref a0]) [] (m_X3_total hW r2.2 (f_X1_log S r2.2 a1) (mo_X1_log hW r2.2 a1 h1)) zc3 (mo_X1_log hW r2.2 a1 h1) zy_X3_total gw782 gw783 gw781 (Nat.le_of_ble_eq_true rfl) (Nat.le_of_ble_eq_true rfl) (Nat.le_of_ble_eq_true rfl) (Nat.le_of_ble_eq_true rfl) (zal hW) rfl dX5_begin_15 (z_at 18 _ [.int (f_X3_total S r2.2 (f_X1_log S r2.2 a1)), .ref a0] rfl rfl rfl ?_)
  refine z_putI zc5 5 (by decide) (Or.inl rfl) rfl gw167 h0 dX5_begin_18 (z_letw (fun w4 => ?_))
  exact z_vret zemW rfl dX5_begin_21

theorem m_X5_begin {E : ZE} {S : Zs} (hW : zWF S) (w : Zw) (a0 : Nat) (h0 : zObj S a0 5) (a1 : Nat) (h1 : zObj S a1 1) : ∀ i, f_X5_begin S w a0 a1 = some i → zMr E yX5_begin cX5_begin 2 none 9 0 0 [.ref a0, .ref a1] S w ((emW eU S) i) :=
  fun i hi => z_enter (by decide +kernel) (Nat.le_of_ble_eq_true rfl) (mw_X5_begin hW w a0 h0 a1 h1 i hi)
/-! ParkingRobot.effortToStore (I)I : T, depth 1 -/
abbrev i_X7_effortToStore : Zm := (yX7_effortToStore.cls, cX7_effortToStore, 1, (some .int), [], yX7_effortToStore.name)
def f_X7_effortToStore (a0 : Int32) : Int32 :=
  ((((3 : Int32) * (f_X7_levelOf a0)) + (f_X7_columnOf a0)) + (f_X7_depthOf a0))
theorem mw_X7_effortToStore {E : ZE} {S : Zs} (hW : zWF S) (w : Zw) (a0 : Int32) : zOk (E, i_X7_effortToStore, 1) 0 0 S w 0 [(0, .int a0)] [] (emP eI S w) (some (f_X7_effortToStore a0)) := by
  unfold f_X7_effortToStore
  refine z_iconst dX7_effortToStore_0 zi_3 (z_iload_n 0 dX7_effortToStore_1 rfl ?_)
  refine z_callS (kc' := 0) (ks' := 0) (v := (some (.int (f_X7_levelOf a0)))) (S1 := S) (w1 := w) (st := [.int (3 : Int32)]) [.int a0] (m_X7_levelOf hW w a0) zy_X7_levelOf gw318 gw317 (Nat.le_of_ble_eq_true rfl) (Nat.le_of_ble_eq_true rfl) (Nat.le_of_ble_eq_true rfl) (Nat.le_of_ble_eq_true rfl) (zal hW) rfl dX7_effortToStore_2 (z_at 5 _ [.int (f_X7_levelOf a0), .int (3 : Int32)] rfl rfl rfl ?_)
  refine z_imul dX7_effortToStore_5 (z_iload_n 0 dX7_effortToStore_6 rfl ?_)
  refine z_callS (kc' := 0) (ks' := 0) (v := (some (.int (f_X7_columnOf a0)))) (S1 := S) (w1 := w) (st := [.int ((3 : Int32) * (f_X7_levelOf a0))]) [.int a0] (m_X7_columnOf hW w a0) zy_X7_columnOf gw312 gw311 (Nat.le_of_ble_eq_true rfl) (Nat.le_of_ble_eq_true rfl) (Nat.le_of_ble_eq_true rfl) (Nat.le_of_ble_eq_true rfl) (zal hW) rfl dX7_effortToStore_7 (z_at 10 _ [.int (f_X7_columnOf a0), .int ((3 : Int32) * (f_X7_levelOf a0))] rfl rfl rfl ?_)
  refine z_iadd dX7_effortToStore_10 (z_iload_n 0 dX7_effortToStore_11 rfl ?_)
  refine z_callS (kc' := 0) (ks' := 0) (v := (some (.int (f_X7_depthOf a0)))) (S1 := S) (w1 := w) (st := [.int (((3 : Int32) * (f_X7_levelOf a0)) + (f_X7_columnOf a0))]) [.int a0] (m_X7_depthOf hW w a0) zy_X7_depthOf gw290 gw320 (Nat.le_of_ble_eq_true rfl) (Nat.le_of_ble_eq_true rfl) (Nat.le_of_ble_eq_true rfl) (Nat.le_of_ble_eq_true rfl) (zal hW) rfl dX7_effortToStore_12 (z_at 15 _ [.int (f_X7_depthOf a0), .int (((3 : Int32) * (f_X7_levelOf a0)) + (f_X7_columnOf a0))] rfl rfl rfl ?_)
  refine z_iadd dX7_effortToStore_15 ?_
  exact z_iret zemP rfl dX7_effortToStore_16

theorem m_X7_effortToStore {E : ZE} {S : Zs} (hW : zWF S) (w : Zw) (a0 : Int32) : zMr E yX7_effortToStore cX7_effortToStore 1 ((some .int)) 1 0 0 [.int a0] S w (.inl (eI (f_X7_effortToStore a0)), S, w) :=
  z_enter (by decide +kernel) (Nat.le_of_ble_eq_true rfl) (mw_X7_effortToStore hW w a0 _ rfl)
/-! ParkingRobot.effortToMove (II)I : P, depth 6 -/
abbrev i_X7_effortToMove : Zm := (yX7_effortToMove.cls, cX7_effortToMove, 3, (some .int), [], yX7_effortToMove.name)
def f_X7_effortToMove (a0 : Int32) (a1 : Int32) : Option (Int32) :=
  if (f_X7_levelOf a0) = (f_X7_levelOf a1) then some ((zabs ((f_X7_columnOf a0) - (f_X7_columnOf a1))) + (f_X7_depthOf a1)) else (zlet (zabs ((f_X7_levelOf a0) - (f_X7_levelOf a1))) fun z2 => some (((((20 : Int32) + ((3 : Int32) * z2)) + (f_X7_columnOf a0)) + (f_X7_columnOf a1)) + (f_X7_depthOf a1)))
theorem mw_X7_effortToMove {E : ZE} {S : Zs} (hW : zWF S) (w : Zw) (a0 : Int32) (a1 : Int32) : zOk (E, i_X7_effortToMove, 6) 0 0 S w 0 [(0, .int a0), (1, .int a1)] [] (emP eI S w) (f_X7_effortToMove a0 a1) := by
  unfold f_X7_effortToMove
  refine z_iload_n 0 dX7_effortToMove_0 rfl ?_
  refine z_callS (kc' := 0) (ks' := 0) (v := (some (.int (f_X7_levelOf a0)))) (S1 := S) (w1 := w) (st := []) [.int a0] (m_X7_levelOf hW w a0) zy_X7_levelOf gw318 gw317 (Nat.le_of_ble_eq_true rfl) (Nat.le_of_ble_eq_true rfl) (Nat.le_of_ble_eq_true rfl) (Nat.le_of_ble_eq_true rfl) (zal hW) rfl dX7_effortToMove_1 (z_at 4 _ [.int (f_X7_levelOf a0)] rfl rfl rfl ?_)
  refine z_iload_n 1 dX7_effortToMove_4 rfl ?_
  refine z_callS (kc' := 0) (ks' := 0) (v := (some (.int (f_X7_levelOf a1)))) (S1 := S) (w1 := w) (st := [.int (f_X7_levelOf a0)]) [.int a1] (m_X7_levelOf hW w a1) zy_X7_levelOf gw318 gw317 (Nat.le_of_ble_eq_true rfl) (Nat.le_of_ble_eq_true rfl) (Nat.le_of_ble_eq_true rfl) (Nat.le_of_ble_eq_true rfl) (zal hW) rfl dX7_effortToMove_5 (z_at 8 _ [.int (f_X7_levelOf a1), .int (f_X7_levelOf a0)] rfl rfl rfl ?_)
  refine z_icmp_ne 29 dX7_effortToMove_8 rfl (fun q1 => ?_) (fun q1 => ?_)
  · refine z_iload_n 0 dX7_effortToMove_29 rfl ?_
    refine z_callS (kc' := 0) (ks' := 0) (v := (some (.int (f_X7_levelOf a0)))) (S1 := S) (w1 := w) (st := []) [.int a0] (m_X7_levelOf hW w a0) zy_X7_levelOf gw318 gw317 (Nat.le_of_ble_eq_true rfl) (Nat.le_of_ble_eq_true rfl) (Nat.le_of_ble_eq_true rfl) (Nat.le_of_ble_eq_true rfl) (zal hW) rfl dX7_effortToMove_30 (z_at 33 _ [.int (f_X7_levelOf a0)] rfl rfl rfl ?_)
    refine z_iload_n 1 dX7_effortToMove_33 rfl ?_
    refine z_callS (kc' := 0) (ks' := 0) (v := (some (.int (f_X7_levelOf a1)))) (S1 := S) (w1 := w) (st := [.int (f_X7_levelOf a0)]) [.int a1] (m_X7_levelOf hW w a1) zy_X7_levelOf gw318 gw317 (Nat.le_of_ble_eq_true rfl) (Nat.le_of_ble_eq_true rfl) (Nat.le_of_ble_eq_true rfl) (Nat.le_of_ble_eq_true rfl) (zal hW) rfl dX7_effortToMove_34 (z_at 37 _ [.int (f_X7_levelOf a1), .int (f_X7_levelOf a0)] rfl rfl rfl ?_)
    refine z_isub dX7_effortToMove_37 (z_abs gw324 (Nat.le_of_ble_eq_true rfl) (Nat.le_of_ble_eq_true rfl) dX7_effortToMove_38 ?_)
    refine z_let (a := (zabs ((f_X7_levelOf a0) - (f_X7_levelOf a1)))) (fun z2 => [(0, .int a0), (1, .int a1)]) (fun z2 => .int z2 :: []) (fun z2 => ?_)
    refine z_istore_n (lv' := [(2, .int z2), (0, .int a0), (1, .int a1)]) dX7_effortToMove_41 (Nat.le_of_ble_eq_true rfl) rfl (z_bipush dX7_effortToMove_42 zb_20 (z_iconst dX7_effortToMove_44 zi_3 (z_iload_n 0 dX7_effortToMove_45 rfl (z_imul dX7_effortToMove_46 (z_iadd dX7_effortToMove_47 ?_)))))
    refine z_iload_n 1 dX7_effortToMove_48 rfl ?_
    refine z_callS (kc' := 0) (ks' := 0) (v := (some (.int (f_X7_columnOf a0)))) (S1 := S) (w1 := w) (st := [.int ((20 : Int32) + ((3 : Int32) * z2))]) [.int a0] (m_X7_columnOf hW w a0) zy_X7_columnOf gw312 gw311 (Nat.le_of_ble_eq_true rfl) (Nat.le_of_ble_eq_true rfl) (Nat.le_of_ble_eq_true rfl) (Nat.le_of_ble_eq_true rfl) (zal hW) rfl dX7_effortToMove_49 (z_at 52 _ [.int (f_X7_columnOf a0), .int ((20 : Int32) + ((3 : Int32) * z2))] rfl rfl rfl ?_)
    refine z_iadd dX7_effortToMove_52 (z_iload_n 2 dX7_effortToMove_53 rfl ?_)
    refine z_callS (kc' := 0) (ks' := 0) (v := (some (.int (f_X7_columnOf a1)))) (S1 := S) (w1 := w) (st := [.int (((20 : Int32) + ((3 : Int32) * z2)) + (f_X7_columnOf a0))]) [.int a1] (m_X7_columnOf hW w a1) zy_X7_columnOf gw312 gw311 (Nat.le_of_ble_eq_true rfl) (Nat.le_of_ble_eq_true rfl) (Nat.le_of_ble_eq_true rfl) (Nat.le_of_ble_eq_true rfl) (zal hW) rfl dX7_effortToMove_54 (z_at 57 _ [.int (f_X7_columnOf a1), .int (((20 : Int32) + ((3 : Int32) * z2)) + (f_X7_columnOf a0))] rfl rfl rfl ?_)
    refine z_iadd dX7_effortToMove_57 (z_iload_n 2 dX7_effortToMove_58 rfl ?_)
    refine z_callS (kc' := 0) (ks' := 0) (v := (some (.int (f_X7_depthOf a1)))) (S1 := S) (w1 := w) (st := [.int ((((20 : Int32) + ((3 : Int32) * z2)) + (f_X7_columnOf a0)) + (f_X7_columnOf a1))]) [.int a1] (m_X7_depthOf hW w a1) zy_X7_depthOf gw290 gw320 (Nat.le_of_ble_eq_true rfl) (Nat.le_of_ble_eq_true rfl) (Nat.le_of_ble_eq_true rfl) (Nat.le_of_ble_eq_true rfl) (zal hW) rfl dX7_effortToMove_59 (z_at 62 _ [.int (f_X7_depthOf a1), .int ((((20 : Int32) + ((3 : Int32) * z2)) + (f_X7_columnOf a0)) + (f_X7_columnOf a1))] rfl rfl rfl ?_)
    refine z_iadd dX7_effortToMove_62 ?_
    exact z_iret zemP rfl dX7_effortToMove_63
  · refine z_iload_n 0 dX7_effortToMove_11 rfl ?_
    refine z_callS (kc' := 0) (ks' := 0) (v := (some (.int (f_X7_columnOf a0)))) (S1 := S) (w1 := w) (st := []) [.int a0] (m_X7_columnOf hW w a0) zy_X7_columnOf gw312 gw311 (Nat.le_of_ble_eq_true rfl) (Nat.le_of_ble_eq_true rfl) (Nat.le_of_ble_eq_true rfl) (Nat.le_of_ble_eq_true rfl) (zal hW) rfl dX7_effortToMove_12 (z_at 15 _ [.int (f_X7_columnOf a0)] rfl rfl rfl ?_)
    refine z_iload_n 1 dX7_effortToMove_15 rfl ?_
    refine z_callS (kc' := 0) (ks' := 0) (v := (some (.int (f_X7_columnOf a1)))) (S1 := S) (w1 := w) (st := [.int (f_X7_columnOf a0)]) [.int a1] (m_X7_columnOf hW w a1) zy_X7_columnOf gw312 gw311 (Nat.le_of_ble_eq_true rfl) (Nat.le_of_ble_eq_true rfl) (Nat.le_of_ble_eq_true rfl) (Nat.le_of_ble_eq_true rfl) (zal hW) rfl dX7_effortToMove_16 (z_at 19 _ [.int (f_X7_columnOf a1), .int (f_X7_columnOf a0)] rfl rfl rfl ?_)
    refine z_isub dX7_effortToMove_19 (z_abs gw324 (Nat.le_of_ble_eq_true rfl) (Nat.le_of_ble_eq_true rfl) dX7_effortToMove_20 (z_iload_n 1 dX7_effortToMove_23 rfl ?_))
    refine z_callS (kc' := 0) (ks' := 0) (v := (some (.int (f_X7_depthOf a1)))) (S1 := S) (w1 := w) (st := [.int (zabs ((f_X7_columnOf a0) - (f_X7_columnOf a1)))]) [.int a1] (m_X7_depthOf hW w a1) zy_X7_depthOf gw290 gw320 (Nat.le_of_ble_eq_true rfl) (Nat.le_of_ble_eq_true rfl) (Nat.le_of_ble_eq_true rfl) (Nat.le_of_ble_eq_true rfl) (zal hW) rfl dX7_effortToMove_24 (z_at 27 _ [.int (f_X7_depthOf a1), .int (zabs ((f_X7_columnOf a0) - (f_X7_columnOf a1)))] rfl rfl rfl ?_)
    refine z_iadd dX7_effortToMove_27 ?_
    exact z_iret zemP rfl dX7_effortToMove_28

theorem m_X7_effortToMove {E : ZE} {S : Zs} (hW : zWF S) (w : Zw) (a0 : Int32) (a1 : Int32) : ∀ i, f_X7_effortToMove a0 a1 = some i → zMr E yX7_effortToMove cX7_effortToMove 3 ((some .int)) 6 0 0 [.int a0, .int a1] S w ((emP eI S w) i) :=
  fun i hi => z_enter (by decide +kernel) (Nat.le_of_ble_eq_true rfl) (mw_X7_effortToMove hW w a0 a1 i hi)
/-! ParkingRobot$Garage.isBad (II)Z : P, depth 1 -/
abbrev i_X1_isBad : Zm := (yX1_isBad.cls, cX1_isBad, 3, (some .boolean), [], yX1_isBad.name)
def f_X1_isBad (S : Zs) (w : Zw) (a0 : Nat) (a1 : Int32) (a2 : Int32) : Option (Int32) :=
  if (f_X7_depthOf a1) = (1 : Int32) then some (0 : Int32) else if zin (a1 + (1 : Int32)) (zlen S (zr S a0 1)) = true then if (w (zr S a0 1) (zix (a1 + (1 : Int32)))) = (-1 : Int32) then some (0 : Int32) else if zin (a1 + (1 : Int32)) (zlen S (zr S a0 1)) = true then if zin (w (zr S a0 1) (zix (a1 + (1 : Int32)))) (zlen S (zr S a0 3)) = true then if a2 ≤ (w (zr S a0 3) (zix (w (zr S a0 1) (zix (a1 + (1 : Int32)))))) then some (0 : Int32) else some (1 : Int32) else none else none else none
theorem mw_X1_isBad {E : ZE} {S : Zs} (hW : zWF S) (w : Zw) (a0 : Nat) (h0 : zObj S a0 1) (a1 : Int32) (a2 : Int32) : zOk (E, i_X1_isBad, 1) 0 0 S w 0 [(0, .ref a0), (1, .int a1), (2, .int a2)] [] (emP eI S w) (f_X1_isBad S w a0 a1 a2) := by
  unfold f_X1_isBad
  refine z_iload_n 1 dX1_isBad_0 rfl ?_
  refine z_callSN (kc' := 0) (ks' := 0) (v := (some (.int (f_X7_depthOf a1)))) (S1 := S) (w1 := w) (st := []) [.int a1] (m_X7_depthOf hW w a1) zy_X7_depthOf gw290 zn_m2 (Nat.le_of_ble_eq_true rfl) (Nat.le_of_ble_eq_true rfl) (Nat.le_of_ble_eq_true rfl) (Nat.le_of_ble_eq_true rfl) (zal hW) rfl dX1_isBad_1 (z_at 4 _ [.int (f_X7_depthOf a1)] rfl rfl rfl ?_)
  refine z_iconst dX1_isBad_4 zi_1 ?_
  refine z_icmp_eq 20 dX1_isBad_5 rfl (fun q1 => ?_) (fun q1 => ?_)
  · refine z_iconst dX1_isBad_20 zi_0 ?_
    exact z_zret zemP rfl rfl dX1_isBad_21
  · refine z_aload_n 0 dX1_isBad_8 rfl (z_getR zc1 1 (by decide) rfl gw102 h0 (zW_some hW h0 1 rfl) dX1_isBad_9 (z_iload_n 1 dX1_isBad_12 rfl (z_iconst dX1_isBad_13 zi_1 (z_iadd dX1_isBad_14 ?_))))
    refine z_chk (fun c2 => ?_)
    refine z_iald (zW_arr hW h0 1 0 rfl) c2 dX1_isBad_15 (z_iconst dX1_isBad_16 zi_m1 ?_)
    refine z_icmp_ne 22 dX1_isBad_17 rfl (fun q3 => ?_) (fun q3 => ?_)
    · refine z_aload_n 0 dX1_isBad_22 rfl (z_getR zc1 3 (by decide) rfl gw104 h0 (zW_some hW h0 3 rfl) dX1_isBad_23 (z_aload_n 0 dX1_isBad_26 rfl (z_getR zc1 1 (by decide) rfl gw102 h0 (zW_some hW h0 1 rfl) dX1_isBad_27 (z_iload_n 1 dX1_isBad_30 rfl (z_iconst dX1_isBad_31 zi_1 ?_)))))
      refine z_iadd dX1_isBad_32 ?_
      refine z_chk (fun c4 => ?_)
      refine z_iald (zW_arr hW h0 1 0 rfl) c4 dX1_isBad_33 ?_
      refine z_chk (fun c5 => ?_)
      refine z_iald (zW_arr hW h0 3 0 rfl) c5 dX1_isBad_34 (z_iload_n 2 dX1_isBad_35 rfl ?_)
      refine z_icmp_ge 43 dX1_isBad_36 rfl (fun q6 => ?_) (fun q6 => ?_)
      · refine z_iconst dX1_isBad_43 zi_0 ?_
        exact z_zret zemP rfl rfl dX1_isBad_44
      · refine z_iconst dX1_isBad_39 zi_1 (z_goto 44 dX1_isBad_40 rfl ?_)
        exact z_zret zemP rfl rfl dX1_isBad_44
    · refine z_iconst dX1_isBad_20 zi_0 ?_
      exact z_zret zemP rfl rfl dX1_isBad_21

theorem m_X1_isBad {E : ZE} {S : Zs} (hW : zWF S) (w : Zw) (a0 : Nat) (h0 : zObj S a0 1) (a1 : Int32) (a2 : Int32) : ∀ i, f_X1_isBad S w a0 a1 a2 = some i → zMr E yX1_isBad cX1_isBad 3 ((some .boolean)) 1 0 0 [.ref a0, .int a1, .int a2] S w ((emP eI S w) i) :=
  fun i hi => z_enter (by decide +kernel) (Nat.le_of_ble_eq_true rfl) (mw_X1_isBad hW w a0 h0 a1 a2 i hi)
/-! ParkingRobot$Garage.chooseBay (III)I : P, depth 7 -/
abbrev i_X1_chooseBay : Zm := (yX1_chooseBay.cls, cX1_chooseBay, 8, (some .int), [], yX1_chooseBay.name)
def f_X1_chooseBay_j100 (S : Zs) (w : Zw) (x0 : Nat) (x1 : Int32) (x2 : Int32) (x3 : Int32) (x4 : Int32) (x5 : Int32) (x6 : Int32) (x7 : Int32) (k9 : (Int32 × Int32 × Int32) → Option (Int32)) : Option (Int32) :=
  if x4 = (-1 : Int32) then k9 (x6, x7, (x6 + (1 : Int32))) else if x5 ≤ x7 then k9 (x4, x5, (x6 + (1 : Int32))) else k9 (x6, x7, (x6 + (1 : Int32)))
theorem m_X1_chooseBay_j100 {E : ZE} {S : Zs} (hW : zWF S) (w : Zw) (x0 : Nat) (hx0 : zObj S x0 1) (x1 : Int32) (x2 : Int32) (x3 : Int32) (x4 : Int32) (x5 : Int32) (x6 : Int32) (x7 : Int32) (k9 : (Int32 × Int32 × Int32) → Option (Int32)) (hk9 : ∀ a : Int32 × Int32 × Int32, zOk (E, i_X1_chooseBay, 7) 0 0 S w 9 [(0, .ref x0), (1, .int x1), (2, .int x2), (3, .int x3), (4, .int a.1), (5, .int a.2.1), (6, .int a.2.2)] [] (emP eI S w) (k9 a)) : zOk (E, i_X1_chooseBay, 7) 0 0 S w 100 [(0, .ref x0), (1, .int x1), (2, .int x2), (3, .int x3), (4, .int x4), (5, .int x5), (6, .int x6), (7, .int x7)] [] (emP eI S w) (f_X1_chooseBay_j100 S w x0 x1 x2 x3 x4 x5 x6 x7 k9) := by
  unfold f_X1_chooseBay_j100
  refine z_iload 4 dX1_chooseBay_100 rfl (z_iconst dX1_chooseBay_102 zi_m1 ?_)
  refine z_icmp_eq 113 dX1_chooseBay_103 rfl (fun q16 => ?_) (fun q16 => ?_)
  · refine z_iload 6 dX1_chooseBay_113 rfl (z_istore (lv' := [(4, .int x6), (0, .ref x0), (1, .int x1), (2, .int x2), (3, .int x3), (5, .int x5), (6, .int x6), (7, .int x7)]) dX1_chooseBay_115 (Nat.le_of_ble_eq_true rfl) rfl (z_iload 7 dX1_chooseBay_117 rfl (z_istore (lv' := [(5, .int x7), (4, .int x6), (0, .ref x0), (1, .int x1), (2, .int x2), (3, .int x3), (6, .int x6), (7, .int x7)]) dX1_chooseBay_119 (Nat.le_of_ble_eq_true rfl) rfl (z_iinc (v := (x6 + (1 : Int32))) (lv' := [(6, .int (x6 + (1 : Int32))), (5, .int x7), (4, .int x6), (0, .ref x0), (1, .int x1), (2, .int x2), (3, .int x3), (7, .int x7)]) 6 dX1_chooseBay_121 rfl (zi_inc _ zi_1) (Nat.le_of_ble_eq_true rfl) rfl (z_goto 9 dX1_chooseBay_124 rfl ?_)))))
    refine z_sub (lv' := [(0, .ref x0), (1, .int x1), (2, .int x2), (3, .int x3), (4, .int x6), (5, .int x7), (6, .int (x6 + (1 : Int32)))]) [3, 4, 5, 6, 2, 1, 0] rfl ?_
    refine z_pc (pc' := 9) rfl ?_
    exact hk9 (x6, x7, (x6 + (1 : Int32)))
  · refine z_iload 7 dX1_chooseBay_106 rfl (z_iload 5 dX1_chooseBay_108 rfl ?_)
    refine z_icmp_ge 121 dX1_chooseBay_110 rfl (fun q17 => ?_) (fun q17 => ?_)
    · refine z_iinc (v := (x6 + (1 : Int32))) (lv' := [(6, .int (x6 + (1 : Int32))), (0, .ref x0), (1, .int x1), (2, .int x2), (3, .int x3), (4, .int x4), (5, .int x5), (7, .int x7)]) 6 dX1_chooseBay_121 rfl (zi_inc _ zi_1) (Nat.le_of_ble_eq_true rfl) rfl (z_goto 9 dX1_chooseBay_124 rfl ?_)
      refine z_sub (lv' := [(0, .ref x0), (1, .int x1), (2, .int x2), (3, .int x3), (4, .int x4), (5, .int x5), (6, .int (x6 + (1 : Int32)))]) [1, 2, 3, 4, 5, 6, 0] rfl ?_
      refine z_pc (pc' := 9) rfl ?_
      exact hk9 (x4, x5, (x6 + (1 : Int32)))
    · refine z_iload 6 dX1_chooseBay_113 rfl (z_istore (lv' := [(4, .int x6), (0, .ref x0), (1, .int x1), (2, .int x2), (3, .int x3), (5, .int x5), (6, .int x6), (7, .int x7)]) dX1_chooseBay_115 (Nat.le_of_ble_eq_true rfl) rfl (z_iload 7 dX1_chooseBay_117 rfl (z_istore (lv' := [(5, .int x7), (4, .int x6), (0, .ref x0), (1, .int x1), (2, .int x2), (3, .int x3), (6, .int x6), (7, .int x7)]) dX1_chooseBay_119 (Nat.le_of_ble_eq_true rfl) rfl (z_iinc (v := (x6 + (1 : Int32))) (lv' := [(6, .int (x6 + (1 : Int32))), (5, .int x7), (4, .int x6), (0, .ref x0), (1, .int x1), (2, .int x2), (3, .int x3), (7, .int x7)]) 6 dX1_chooseBay_121 rfl (zi_inc _ zi_1) (Nat.le_of_ble_eq_true rfl) rfl (z_goto 9 dX1_chooseBay_124 rfl ?_)))))
      refine z_sub (lv' := [(0, .ref x0), (1, .int x1), (2, .int x2), (3, .int x3), (4, .int x6), (5, .int x7), (6, .int (x6 + (1 : Int32)))]) [3, 4, 5, 6, 2, 1, 0] rfl ?_
      refine z_pc (pc' := 9) rfl ?_
      exact hk9 (x6, x7, (x6 + (1 : Int32)))

def f_X1_chooseBay_j82 (S : Zs) (w : Zw) (x0 : Nat) (x1 : Int32) (x2 : Int32) (x3 : Int32) (x4 : Int32) (x5 : Int32) (x6 : Int32) (y0 : Int32) (k9 : (Int32 × Int32 × Int32) → Option (Int32)) : Option (Int32) :=
  (f_X1_isBad S w x0 x6 x2).bind fun v13 => if v13 = 0 then f_X1_chooseBay_j100 S w x0 x1 x2 x3 x4 x5 x6 y0 k9  else f_X1_chooseBay_j100 S w x0 x1 x2 x3 x4 x5 x6 ((y0 + (1000 : Int32))) k9 
theorem m_X1_chooseBay_j82 {E : ZE} {S : Zs} (hW : zWF S) (w : Zw) (x0 : Nat) (hx0 : zObj S x0 1) (x1 : Int32) (x2 : Int32) (x3 : Int32) (x4 : Int32) (x5 : Int32) (x6 : Int32) (y0 : Int32) (k9 : (Int32 × Int32 × Int32) → Option (Int32)) (hk9 : ∀ a : Int32 × Int32 × Int32, zOk (E, i_X1_chooseBay, 7) 0 0 S w 9 [(0, .ref x0), (1, .int x1), (2, .int x2), (3, .int x3), (4, .int a.1), (5, .int a.2.1), (6, .int a.2.2)] [] (emP eI S w) (k9 a)) : zOk (E, i_X1_chooseBay, 7) 0 0 S w 82 [(0, .ref x0), (1, .int x1), (2, .int x2), (3, .int x3), (4, .int x4), (5, .int x5), (6, .int x6)] [.int y0] (emP eI S w) (f_X1_chooseBay_j82 S w x0 x1 x2 x3 x4 x5 x6 y0 k9) := by
  unfold f_X1_chooseBay_j82
  refine z_istore (lv' := [(7, .int y0), (0, .ref x0), (1, .int x1), (2, .int x2), (3, .int x3), (4, .int x4), (5, .int x5), (6, .int x6)]) dX1_chooseBay_82 (Nat.le_of_ble_eq_true rfl) rfl (z_aload_n 1 dX1_chooseBay_84 rfl (z_iload 7 dX1_chooseBay_85 rfl (z_iload_n 3 dX1_chooseBay_87 rfl ?_)))
  refine z_bind (fun v13 hb14 => ?_)
  refine z_callV (kc' := 0) (ks' := 0) (v := (some (.int v13))) (S1 := S) (w1 := w) (st := []) [.int x6, .int x2] (m_X1_isBad hW w x0 hx0 x6 x2 v13 hb14) zc1 hx0 zy_X1_isBad gw329 gp1 gw327 (Nat.le_of_ble_eq_true rfl) (Nat.le_of_ble_eq_true rfl) (Nat.le_of_ble_eq_true rfl) (Nat.le_of_ble_eq_true rfl) (zal hW) rfl dX1_chooseBay_88 (z_at 91 _ [.int v13] rfl rfl rfl ?_)
  refine z_if_eq 100 dX1_chooseBay_91 rfl (fun q15 => ?_) (fun q15 => ?_)
  · refine z_sub (lv' := [(0, .ref x0), (1, .int x1), (2, .int x2), (3, .int x3), (4, .int x4), (5, .int x5), (6, .int x6), (7, .int y0)]) [1, 2, 3, 4, 5, 6, 7, 0] rfl ?_
    refine z_pc (pc' := 100) rfl ?_
    exact m_X1_chooseBay_j100 hW w x0 hx0 x1 x2 x3 x4 x5 x6 y0 k9 hk9 
  · refine z_iincW (v := (y0 + (1000 : Int32))) (lv' := [(7, .int (y0 + (1000 : Int32))), (0, .ref x0), (1, .int x1), (2, .int x2), (3, .int x3), (4, .int x4), (5, .int x5), (6, .int x6)]) 0 dX1_chooseBay_94 rfl (zi_inc _ zi_1000) (Nat.le_of_ble_eq_true rfl) rfl ?_
    refine z_sub (lv' := [(0, .ref x0), (1, .int x1), (2, .int x2), (3, .int x3), (4, .int x4), (5, .int x5), (6, .int x6), (7, .int (y0 + (1000 : Int32)))]) [1, 2, 3, 4, 5, 6, 7, 0] rfl ?_
    refine z_pc (pc' := 100) rfl ?_
    exact m_X1_chooseBay_j100 hW w x0 hx0 x1 x2 x3 x4 x5 x6 ((y0 + (1000 : Int32))) k9 hk9 

def f_X1_chooseBay_j63 (S : Zs) (w : Zw) (x0 : Nat) (x1 : Int32) (x2 : Int32) (x3 : Int32) (x4 : Int32) (x5 : Int32) (x6 : Int32) (k9 : (Int32 × Int32 × Int32) → Option (Int32)) : Option (Int32) :=
  if x3 = (-1 : Int32) then f_X1_chooseBay_j82 S w x0 x1 x2 x3 x4 x5 x6 ((f_X7_effortToStore x6)) k9  else (f_X7_effortToMove x3 x6).bind fun v11 => f_X1_chooseBay_j82 S w x0 x1 x2 x3 x4 x5 x6 v11 k9 
theorem m_X1_chooseBay_j63 {E : ZE} {S : Zs} (hW : zWF S) (w : Zw) (x0 : Nat) (hx0 : zObj S x0 1) (x1 : Int32) (x2 : Int32) (x3 : Int32) (x4 : Int32) (x5 : Int32) (x6 : Int32) (k9 : (Int32 × Int32 × Int32) → Option (Int32)) (hk9 : ∀ a : Int32 × Int32 × Int32, zOk (E, i_X1_chooseBay, 7) 0 0 S w 9 [(0, .ref x0), (1, .int x1), (2, .int x2), (3, .int x3), (4, .int a.1), (5, .int a.2.1), (6, .int a.2.2)] [] (emP eI S w) (k9 a)) : zOk (E, i_X1_chooseBay, 7) 0 0 S w 63 [(0, .ref x0), (1, .int x1), (2, .int x2), (3, .int x3), (4, .int x4), (5, .int x5), (6, .int x6)] [] (emP eI S w) (f_X1_chooseBay_j63 S w x0 x1 x2 x3 x4 x5 x6 k9) := by
  unfold f_X1_chooseBay_j63
  refine z_iload_n 3 dX1_chooseBay_63 rfl (z_iconst dX1_chooseBay_64 zi_m1 ?_)
  refine z_icmp_ne 76 dX1_chooseBay_65 rfl (fun q10 => ?_) (fun q10 => ?_)
  · refine z_iload_n 3 dX1_chooseBay_76 rfl (z_iload 6 dX1_chooseBay_77 rfl ?_)
    refine z_bind (fun v11 hb12 => ?_)
    refine z_callSN (kc' := 0) (ks' := 0) (v := (some (.int v11))) (S1 := S) (w1 := w) (st := []) [.int x3, .int x6] (m_X7_effortToMove hW w x3 x6 v11 hb12) zy_X7_effortToMove gw322 zn_m5 (Nat.le_of_ble_eq_true rfl) (Nat.le_of_ble_eq_true rfl) (Nat.le_of_ble_eq_true rfl) (Nat.le_of_ble_eq_true rfl) (zal hW) rfl dX1_chooseBay_79 (z_at 82 _ [.int v11] rfl rfl rfl ?_)
    refine z_pc (pc' := 82) rfl ?_
    exact m_X1_chooseBay_j82 hW w x0 hx0 x1 x2 x3 x4 x5 x6 v11 k9 hk9 
  · refine z_iload 6 dX1_chooseBay_68 rfl ?_
    refine z_callSN (kc' := 0) (ks' := 0) (v := (some (.int (f_X7_effortToStore x6)))) (S1 := S) (w1 := w) (st := []) [.int x6] (m_X7_effortToStore hW w x6) zy_X7_effortToStore gw315 zn_m4 (Nat.le_of_ble_eq_true rfl) (Nat.le_of_ble_eq_true rfl) (Nat.le_of_ble_eq_true rfl) (Nat.le_of_ble_eq_true rfl) (zal hW) rfl dX1_chooseBay_70 (z_at 73 _ [.int (f_X7_effortToStore x6)] rfl rfl rfl ?_)
    refine z_goto 82 dX1_chooseBay_73 rfl ?_
    refine z_pc (pc' := 82) rfl ?_
    exact m_X1_chooseBay_j82 hW w x0 hx0 x1 x2 x3 x4 x5 x6 ((f_X7_effortToStore x6)) k9 hk9 

def f_X1_chooseBay_b9 (S : Zs) (w : Zw) (x0 : Nat) (x1 : Int32) (x2 : Int32) (x3 : Int32) (k : (Int32 × Int32 × Int32) → Option (Int32)) (x4 : Int32) (x5 : Int32) (x6 : Int32) : Option (Int32) :=
  if (60 : Int32) ≤ x6 then some x4 else if zin x6 (zlen S (zr S x0 0)) = true then if (w (zr S x0 0) (zix x6)) = 0 then (if zin x6 (zlen S (zr S x0 1)) = true then if (w (zr S x0 1) (zix x6)) = (-1 : Int32) then (f_X1_carBefore S w x0 x6).bind fun v6 => if v6 = (-1 : Int32) then (if x1 = (1 : Int32) then (f_X7_isWide x6).bind fun v18 => if v18 = 0 then k (x4, x5, (x6 + (1 : Int32))) else f_X1_chooseBay_j63 S w x0 x1 x2 x3 x4 x5 x6 k  else f_X1_chooseBay_j63 S w x0 x1 x2 x3 x4 x5 x6 k ) else k (x4, x5, (x6 + (1 : Int32))) else k (x4, x5, (x6 + (1 : Int32))) else none) else k (x4, x5, (x6 + (1 : Int32))) else none
def f_X1_chooseBay_l9 (S : Zs) (w : Zw) (x0 : Nat) (x1 : Int32) (x2 : Int32) (x3 : Int32) (a : Int32 × Int32 × Int32) : Option (Int32) :=
  zlp (fun k a => f_X1_chooseBay_b9 S w x0 x1 x2 x3 k a.1 a.2.1 a.2.2) zFU a
theorem m_X1_chooseBay_l9 {E : ZE} {S : Zs} (hW : zWF S) (w : Zw) (x0 : Nat) (hx0 : zObj S x0 1) (x1 : Int32) (x2 : Int32) (x3 : Int32) : ∀ a : Int32 × Int32 × Int32, zOk (E, i_X1_chooseBay, 7) 0 0 S w 9 [(0, .ref x0), (1, .int x1), (2, .int x2), (3, .int x3), (4, .int a.1), (5, .int a.2.1), (6, .int a.2.2)] [] (emP eI S w) (f_X1_chooseBay_l9 S w x0 x1 x2 x3 a) := by
  intro a
  refine z_lp (P := fun _ => True) (W9 := fun a : Int32 × Int32 × Int32 => w) (L9 := fun a : Int32 × Int32 × Int32 => [(0, .ref x0), (1, .int x1), (2, .int x2), (3, .int x3), (4, .int a.1), (5, .int a.2.1), (6, .int a.2.2)]) (T9 := fun _ => []) (fun k hk9 a _ => ?_) zFU a trivial
  have hk : ∀ a : Int32 × Int32 × Int32, zOk (E, i_X1_chooseBay, 7) 0 0 S w 9 [(0, .ref x0), (1, .int x1), (2, .int x2), (3, .int x3), (4, .int a.1), (5, .int a.2.1), (6, .int a.2.2)] [] (emP eI S w) (k a) := fun a => hk9 a trivial
  clear hk9
  obtain ⟨x4, x5, x6⟩ := a
  show zOk (E, i_X1_chooseBay, 7) 0 0 S w 9 [(0, .ref x0), (1, .int x1), (2, .int x2), (3, .int x3), (4, .int x4), (5, .int x5), (6, .int x6)] [] (emP eI S w) (f_X1_chooseBay_b9 S w x0 x1 x2 x3 k x4 x5 x6)
  unfold f_X1_chooseBay_b9
  refine z_iload 6 dX1_chooseBay_9 rfl (z_bipush dX1_chooseBay_11 zb_60 ?_)
  refine z_icmp_ge 127 dX1_chooseBay_13 rfl (fun q1 => ?_) (fun q1 => ?_)
  · refine z_iload 4 dX1_chooseBay_127 rfl ?_
    exact z_iret zemP rfl dX1_chooseBay_129
  · refine z_aload_n 0 dX1_chooseBay_16 rfl (z_getR zc1 0 (by decide) rfl gw101 hx0 (zW_some hW hx0 0 rfl) dX1_chooseBay_17 (z_iload 6 dX1_chooseBay_20 rfl ?_))
    refine z_chk (fun c2 => ?_)
    refine z_zald (zW_arr hW hx0 0 1 rfl) c2 dX1_chooseBay_22 ?_
    refine z_if_ne 121 dX1_chooseBay_23 rfl (fun q3 => ?_) (fun q3 => ?_)
    · refine z_iinc (v := (x6 + (1 : Int32))) (lv' := [(6, .int (x6 + (1 : Int32))), (0, .ref x0), (1, .int x1), (2, .int x2), (3, .int x3), (4, .int x4), (5, .int x5)]) 6 dX1_chooseBay_121 rfl (zi_inc _ zi_1) (Nat.le_of_ble_eq_true rfl) rfl (z_goto 9 dX1_chooseBay_124 rfl ?_)
      refine z_sub (lv' := [(0, .ref x0), (1, .int x1), (2, .int x2), (3, .int x3), (4, .int x4), (5, .int x5), (6, .int (x6 + (1 : Int32)))]) [1, 2, 3, 4, 5, 6, 0] rfl ?_
      refine z_pc (pc' := 9) rfl ?_
      exact hk (x4, x5, (x6 + (1 : Int32)))
    · refine z_aload_n 0 dX1_chooseBay_26 rfl (z_getR zc1 1 (by decide) rfl gw102 hx0 (zW_some hW hx0 1 rfl) dX1_chooseBay_27 (z_iload 6 dX1_chooseBay_30 rfl ?_))
      refine z_chk (fun c4 => ?_)
      refine z_iald (zW_arr hW hx0 1 0 rfl) c4 dX1_chooseBay_32 (z_iconst dX1_chooseBay_33 zi_m1 ?_)
      refine z_icmp_ne 121 dX1_chooseBay_34 rfl (fun q5 => ?_) (fun q5 => ?_)
      · refine z_iinc (v := (x6 + (1 : Int32))) (lv' := [(6, .int (x6 + (1 : Int32))), (0, .ref x0), (1, .int x1), (2, .int x2), (3, .int x3), (4, .int x4), (5, .int x5)]) 6 dX1_chooseBay_121 rfl (zi_inc _ zi_1) (Nat.le_of_ble_eq_true rfl) rfl (z_goto 9 dX1_chooseBay_124 rfl ?_)
        refine z_sub (lv' := [(0, .ref x0), (1, .int x1), (2, .int x2), (3, .int x3), (4, .int x4), (5, .int x5), (6, .int (x6 + (1 : Int32)))]) [1, 2, 3, 4, 5, 6, 0] rfl ?_
        refine z_pc (pc' := 9) rfl ?_
        exact hk (x4, x5, (x6 + (1 : Int32)))
      · refine z_aload_n 0 dX1_chooseBay_37 rfl (z_iload 6 dX1_chooseBay_38 rfl ?_)
        refine z_bind (fun v6 hb7 => ?_)
        refine z_callV (kc' := 0) (ks' := 0) (v := (some (.int v6))) (S1 := S) (w1 := w) (st := []) [.int x6] (m_X1_carBefore hW w x0 hx0 x6 v6 hb7) zc1 hx0 zy_X1_carBefore gw286 gw287 gw285 (Nat.le_of_ble_eq_true rfl) (Nat.le_of_ble_eq_true rfl) (Nat.le_of_ble_eq_true rfl) (Nat.le_of_ble_eq_true rfl) (zal hW) rfl dX1_chooseBay_40 (z_at 43 _ [.int v6] rfl rfl rfl ?_)
        refine z_iconst dX1_chooseBay_43 zi_m1 ?_
        refine z_icmp_ne 121 dX1_chooseBay_44 rfl (fun q8 => ?_) (fun q8 => ?_)
        · refine z_iinc (v := (x6 + (1 : Int32))) (lv' := [(6, .int (x6 + (1 : Int32))), (0, .ref x0), (1, .int x1), (2, .int x2), (3, .int x3), (4, .int x4), (5, .int x5)]) 6 dX1_chooseBay_121 rfl (zi_inc _ zi_1) (Nat.le_of_ble_eq_true rfl) rfl (z_goto 9 dX1_chooseBay_124 rfl ?_)
          refine z_sub (lv' := [(0, .ref x0), (1, .int x1), (2, .int x2), (3, .int x3), (4, .int x4), (5, .int x5), (6, .int (x6 + (1 : Int32)))]) [1, 2, 3, 4, 5, 6, 0] rfl ?_
          refine z_pc (pc' := 9) rfl ?_
          exact hk (x4, x5, (x6 + (1 : Int32)))
        · refine z_iload_n 1 dX1_chooseBay_47 rfl (z_iconst dX1_chooseBay_48 zi_1 ?_)
          refine z_icmp_ne 63 dX1_chooseBay_49 rfl (fun q9 => ?_) (fun q9 => ?_)
          · refine z_pc (pc' := 63) rfl ?_
            exact m_X1_chooseBay_j63 hW w x0 hx0 x1 x2 x3 x4 x5 x6 k hk 
          · refine z_iload 6 dX1_chooseBay_52 rfl ?_
            refine z_bind (fun v18 hb19 => ?_)
            refine z_callSN (kc' := 0) (ks' := 0) (v := (some (.int v18))) (S1 := S) (w1 := w) (st := []) [.int x6] (m_X7_isWide hW w x6 v18 hb19) zy_X7_isWide gw309 zn_m3 (Nat.le_of_ble_eq_true rfl) (Nat.le_of_ble_eq_true rfl) (Nat.le_of_ble_eq_true rfl) (Nat.le_of_ble_eq_true rfl) (zal hW) rfl dX1_chooseBay_54 (z_at 57 _ [.int v18] rfl rfl rfl ?_)
            refine z_if_ne 63 dX1_chooseBay_57 rfl (fun q20 => ?_) (fun q20 => ?_)
            · refine z_pc (pc' := 63) rfl ?_
              exact m_X1_chooseBay_j63 hW w x0 hx0 x1 x2 x3 x4 x5 x6 k hk 
            · refine z_goto 121 dX1_chooseBay_60 rfl (z_iinc (v := (x6 + (1 : Int32))) (lv' := [(6, .int (x6 + (1 : Int32))), (0, .ref x0), (1, .int x1), (2, .int x2), (3, .int x3), (4, .int x4), (5, .int x5)]) 6 dX1_chooseBay_121 rfl (zi_inc _ zi_1) (Nat.le_of_ble_eq_true rfl) rfl (z_goto 9 dX1_chooseBay_124 rfl ?_))
              refine z_sub (lv' := [(0, .ref x0), (1, .int x1), (2, .int x2), (3, .int x3), (4, .int x4), (5, .int x5), (6, .int (x6 + (1 : Int32)))]) [1, 2, 3, 4, 5, 6, 0] rfl ?_
              refine z_pc (pc' := 9) rfl ?_
              exact hk (x4, x5, (x6 + (1 : Int32)))

def f_X1_chooseBay (S : Zs) (w : Zw) (a0 : Nat) (a1 : Int32) (a2 : Int32) (a3 : Int32) : Option (Int32) :=
  f_X1_chooseBay_l9 S w a0 a1 a2 a3 ((-1 : Int32), (0 : Int32), (0 : Int32))
theorem mw_X1_chooseBay {E : ZE} {S : Zs} (hW : zWF S) (w : Zw) (a0 : Nat) (h0 : zObj S a0 1) (a1 : Int32) (a2 : Int32) (a3 : Int32) : zOk (E, i_X1_chooseBay, 7) 0 0 S w 0 [(0, .ref a0), (1, .int a1), (2, .int a2), (3, .int a3)] [] (emP eI S w) (f_X1_chooseBay S w a0 a1 a2 a3) := by
  unfold f_X1_chooseBay
  refine z_iconst dX1_chooseBay_0 zi_m1 (z_istore (lv' := [(4, .int (-1 : Int32)), (0, .ref a0), (1, .int a1), (2, .int a2), (3, .int a3)]) dX1_chooseBay_1 (Nat.le_of_ble_eq_true rfl) rfl (z_iconst dX1_chooseBay_3 zi_0 (z_istore (lv' := [(5, .int (0 : Int32)), (4, .int (-1 : Int32)), (0, .ref a0), (1, .int a1), (2, .int a2), (3, .int a3)]) dX1_chooseBay_4 (Nat.le_of_ble_eq_true rfl) rfl (z_iconst dX1_chooseBay_6 zi_0 (z_istore (lv' := [(6, .int (0 : Int32)), (5, .int (0 : Int32)), (4, .int (-1 : Int32)), (0, .ref a0), (1, .int a1), (2, .int a2), (3, .int a3)]) dX1_chooseBay_7 (Nat.le_of_ble_eq_true rfl) rfl ?_)))))
  refine z_sub (lv' := [(0, .ref a0), (1, .int a1), (2, .int a2), (3, .int a3), (4, .int (-1 : Int32)), (5, .int (0 : Int32)), (6, .int (0 : Int32))]) [3, 4, 5, 6, 2, 1, 0] rfl ?_
  refine z_pc (pc' := 9) rfl ?_
  exact m_X1_chooseBay_l9 hW w a0 h0 a1 a2 a3 ((-1 : Int32), (0 : Int32), (0 : Int32))

theorem m_X1_chooseBay {E : ZE} {S : Zs} (hW : zWF S) (w : Zw) (a0 : Nat) (h0 : zObj S a0 1) (a1 : Int32) (a2 : Int32) (a3 : Int32) : ∀ i, f_X1_chooseBay S w a0 a1 a2 a3 = some i → zMr E yX1_chooseBay cX1_chooseBay 8 ((some .int)) 7 0 0 [.ref a0, .int a1, .int a2, .int a3] S w ((emP eI S w) i) :=
  fun i hi => z_enter (by decide +kernel) (Nat.le_of_ble_eq_true rfl) (mw_X1_chooseBay hW w a0 h0 a1 a2 a3 i hi)
end ZFN
