section ZFN
/-! ParkingRobotModel.at (I)I : P, depth 0 -/
abbrev i_X8_at : Zm := (yX8_at.cls, cX8_at, 2, (some .int), [], yX8_at.name)
def f_X8_at (S : Zs) (w : Zw) (a0 : Nat) (a1 : Int32) : Option (Int32) :=
  if zin ((7 : Int32) + ((3 : Int32) * a1)) (zlen S (zr S a0 1)) = true then some (w (zr S a0 1) (zix ((7 : Int32) + ((3 : Int32) * a1)))) else none
theorem mw_X8_at {E : ZE} {S : Zs} (hW : zWF S) (w : Zw) (a0 : Nat) (h0 : zObj S a0 8) (a1 : Int32) : zOk (E, i_X8_at, 0) 0 0 S w 0 [(0, .ref a0), (1, .int a1)] [] (emP eI S w) (f_X8_at S w a0 a1) := by
  unfold f_X8_at
  refine z_aload_n 0 dX8_at_0 rfl (z_getR zc8 1 (by decide) rfl gw1108 h0 (zW_some hW h0 1 rfl) dX8_at_1 (z_bipush dX8_at_4 zb_7 (z_iconst dX8_at_6 zi_3 (z_iload_n 1 dX8_at_7 rfl (z_imul dX8_at_8 ?_)))))
  refine z_iadd dX8_at_9 ?_
  refine z_chk (fun c1 => ?_)
  refine z_iald (zW_arr hW h0 1 0 rfl) c1 dX8_at_10 ?_
  exact z_iret zemP rfl dX8_at_11

theorem m_X8_at {E : ZE} {S : Zs} (hW : zWF S) (w : Zw) (a0 : Nat) (h0 : zObj S a0 8) (a1 : Int32) : ∀ i, f_X8_at S w a0 a1 = some i → zMr E yX8_at cX8_at 2 ((some .int)) 0 0 0 [.ref a0, .int a1] S w ((emP eI S w) i) :=
  fun i hi => z_enter (by decide +kernel) (Nat.le_of_ble_eq_true rfl) (mw_X8_at hW w a0 h0 a1 i hi)
/-! ParkingRobotModel.isBay (I)Z : P, depth 1 -/
abbrev i_X8_isBay : Zm := (yX8_isBay.cls, cX8_isBay, 1, (some .boolean), [], yX8_isBay.name)
def f_X8_isBay (a0 : Int32) : Option (Int32) :=
  (f_X8_in a0 (0 : Int32) (59 : Int32)).bind fun v1 => if zb1 v1 = true then some v1 else none
theorem mw_X8_isBay {E : ZE} {S : Zs} (hW : zWF S) (w : Zw) (a0 : Int32) : zOk (E, i_X8_isBay, 1) 0 0 S w 0 [(0, .int a0)] [] (emP eI S w) (f_X8_isBay a0) := by
  unfold f_X8_isBay
  refine z_iload_n 0 dX8_isBay_0 rfl (z_iconst dX8_isBay_1 zi_0 (z_bipush dX8_isBay_2 zb_59 ?_))
  refine z_bind (fun v1 hb2 => ?_)
  refine z_callS (kc' := 0) (ks' := 0) (v := (some (.int v1))) (S1 := S) (w1 := w) (st := []) [.int a0, .int (0 : Int32), .int (59 : Int32)] (m_X8_in hW w a0 (0 : Int32) (59 : Int32) v1 hb2) zy_X8_in gw1208 gw1207 (Nat.le_of_ble_eq_true rfl) (Nat.le_of_ble_eq_true rfl) (Nat.le_of_ble_eq_true rfl) (Nat.le_of_ble_eq_true rfl) (zal hW) rfl dX8_isBay_4 (z_at 7 _ [.int v1] rfl rfl rfl ?_)
  refine z_chk (fun c3 => ?_)
  exact z_zret zemP rfl (zb1_nar c3) dX8_isBay_7

theorem m_X8_isBay {E : ZE} {S : Zs} (hW : zWF S) (w : Zw) (a0 : Int32) : ∀ i, f_X8_isBay a0 = some i → zMr E yX8_isBay cX8_isBay 1 ((some .boolean)) 1 0 0 [.int a0] S w ((emP eI S w) i) :=
  fun i hi => z_enter (by decide +kernel) (Nat.le_of_ble_eq_true rfl) (mw_X8_isBay hW w a0 i hi)
/-! ParkingRobotModel.level (I)I : T, depth 0 -/
abbrev i_X8_level : Zm := (yX8_level.cls, cX8_level, 1, (some .int), [], yX8_level.name)
def f_X8_level (a0 : Int32) : Int32 :=
  (a0 / (20 : Int32))
theorem mw_X8_level {E : ZE} {S : Zs} (hW : zWF S) (w : Zw) (a0 : Int32) : zOk (E, i_X8_level, 0) 0 0 S w 0 [(0, .int a0)] [] (emP eI S w) (some (f_X8_level a0)) := by
  unfold f_X8_level
  refine z_iload_n 0 dX8_level_0 rfl (z_bipush dX8_level_1 zb_20 (z_idiv dX8_level_3 (by decide) ?_))
  exact z_iret zemP rfl dX8_level_4

theorem m_X8_level {E : ZE} {S : Zs} (hW : zWF S) (w : Zw) (a0 : Int32) : zMr E yX8_level cX8_level 1 ((some .int)) 0 0 0 [.int a0] S w (.inl (eI (f_X8_level a0)), S, w) :=
  z_enter (by decide +kernel) (Nat.le_of_ble_eq_true rfl) (mw_X8_level hW w a0 _ rfl)
/-! ParkingRobotModel.side (I)I : T, depth 0 -/
abbrev i_X8_side : Zm := (yX8_side.cls, cX8_side, 1, (some .int), [], yX8_side.name)
def f_X8_side (a0 : Int32) : Int32 :=
  (zrem (a0 / (10 : Int32)) (2 : Int32))
theorem mw_X8_side {E : ZE} {S : Zs} (hW : zWF S) (w : Zw) (a0 : Int32) : zOk (E, i_X8_side, 0) 0 0 S w 0 [(0, .int a0)] [] (emP eI S w) (some (f_X8_side a0)) := by
  unfold f_X8_side
  refine z_iload_n 0 dX8_side_0 rfl (z_bipush dX8_side_1 zb_10 (z_idiv dX8_side_3 (by decide) (z_iconst dX8_side_4 zi_2 (z_rem dX8_side_5 (by decide) ?_))))
  exact z_iret zemP rfl dX8_side_6

theorem m_X8_side {E : ZE} {S : Zs} (hW : zWF S) (w : Zw) (a0 : Int32) : zMr E yX8_side cX8_side 1 ((some .int)) 0 0 0 [.int a0] S w (.inl (eI (f_X8_side a0)), S, w) :=
  z_enter (by decide +kernel) (Nat.le_of_ble_eq_true rfl) (mw_X8_side hW w a0 _ rfl)
/-! ParkingRobotModel.column (I)I : T, depth 0 -/
abbrev i_X8_column : Zm := (yX8_column.cls, cX8_column, 1, (some .int), [], yX8_column.name)
def f_X8_column (a0 : Int32) : Int32 :=
  (zrem (a0 / (2 : Int32)) (5 : Int32))
theorem mw_X8_column {E : ZE} {S : Zs} (hW : zWF S) (w : Zw) (a0 : Int32) : zOk (E, i_X8_column, 0) 0 0 S w 0 [(0, .int a0)] [] (emP eI S w) (some (f_X8_column a0)) := by
  unfold f_X8_column
  refine z_iload_n 0 dX8_column_0 rfl (z_iconst dX8_column_1 zi_2 (z_idiv dX8_column_2 (by decide) (z_iconst dX8_column_3 zi_5 (z_rem dX8_column_4 (by decide) ?_))))
  exact z_iret zemP rfl dX8_column_5

theorem m_X8_column {E : ZE} {S : Zs} (hW : zWF S) (w : Zw) (a0 : Int32) : zMr E yX8_column cX8_column 1 ((some .int)) 0 0 0 [.int a0] S w (.inl (eI (f_X8_column a0)), S, w) :=
  z_enter (by decide +kernel) (Nat.le_of_ble_eq_true rfl) (mw_X8_column hW w a0 _ rfl)
/-! ParkingRobotModel.depth (I)I : T, depth 0 -/
abbrev i_X8_depth : Zm := (yX8_depth.cls, cX8_depth, 1, (some .int), [], yX8_depth.name)
def f_X8_depth (a0 : Int32) : Int32 :=
  (zrem a0 (2 : Int32))
theorem mw_X8_depth {E : ZE} {S : Zs} (hW : zWF S) (w : Zw) (a0 : Int32) : zOk (E, i_X8_depth, 0) 0 0 S w 0 [(0, .int a0)] [] (emP eI S w) (some (f_X8_depth a0)) := by
  unfold f_X8_depth
  refine z_iload_n 0 dX8_depth_0 rfl (z_iconst dX8_depth_1 zi_2 (z_rem dX8_depth_2 (by decide) ?_))
  exact z_iret zemP rfl dX8_depth_3

theorem m_X8_depth {E : ZE} {S : Zs} (hW : zWF S) (w : Zw) (a0 : Int32) : zMr E yX8_depth cX8_depth 1 ((some .int)) 0 0 0 [.int a0] S w (.inl (eI (f_X8_depth a0)), S, w) :=
  z_enter (by decide +kernel) (Nat.le_of_ble_eq_true rfl) (mw_X8_depth hW w a0 _ rfl)
/-! ParkingRobotModel.isWide (I)Z : P, depth 1 -/
abbrev i_X8_isWide : Zm := (yX8_isWide.cls, cX8_isWide, 1, (some .boolean), [], yX8_isWide.name)
def f_X8_isWide (a0 : Int32) : Option (Int32) :=
  if (zrem (f_X8_column a0) (2 : Int32)) = 0 then some (1 : Int32) else some (0 : Int32)
theorem mw_X8_isWide {E : ZE} {S : Zs} (hW : zWF S) (w : Zw) (a0 : Int32) : zOk (E, i_X8_isWide, 1) 0 0 S w 0 [(0, .int a0)] [] (emP eI S w) (f_X8_isWide a0) := by
  unfold f_X8_isWide
  refine z_iload_n 0 dX8_isWide_0 rfl ?_
  refine z_callS (kc' := 0) (ks' := 0) (v := (some (.int (f_X8_column a0)))) (S1 := S) (w1 := w) (st := []) [.int a0] (m_X8_column hW w a0) zy_X8_column gw1229 gw1228 (Nat.le_of_ble_eq_true rfl) (Nat.le_of_ble_eq_true rfl) (Nat.le_of_ble_eq_true rfl) (Nat.le_of_ble_eq_true rfl) (zal hW) rfl dX8_isWide_1 (z_at 4 _ [.int (f_X8_column a0)] rfl rfl rfl ?_)
  refine z_iconst dX8_isWide_4 zi_2 (z_rem dX8_isWide_5 (by decide) ?_)
  refine z_if_ne 13 dX8_isWide_6 rfl (fun q1 => ?_) (fun q1 => ?_)
  · refine z_iconst dX8_isWide_13 zi_0 ?_
    exact z_zret zemP rfl rfl dX8_isWide_14
  · refine z_iconst dX8_isWide_9 zi_1 (z_goto 14 dX8_isWide_10 rfl ?_)
    exact z_zret zemP rfl rfl dX8_isWide_14

theorem m_X8_isWide {E : ZE} {S : Zs} (hW : zWF S) (w : Zw) (a0 : Int32) : ∀ i, f_X8_isWide a0 = some i → zMr E yX8_isWide cX8_isWide 1 ((some .boolean)) 1 0 0 [.int a0] S w ((emP eI S w) i) :=
  fun i hi => z_enter (by decide +kernel) (Nat.le_of_ble_eq_true rfl) (mw_X8_isWide hW w a0 i hi)
/-! ParkingRobotModel.isEmpty (I)Z : P, depth 0 -/
abbrev i_X8_isEmpty : Zm := (yX8_isEmpty.cls, cX8_isEmpty, 2, (some .boolean), [], yX8_isEmpty.name)
def f_X8_isEmpty (S : Zs) (w : Zw) (a0 : Nat) (a1 : Int32) : Option (Int32) :=
  if zin ((79 : Int32) + a1) (zlen S (zr S a0 1)) = true then if 0 ≤ (w (zr S a0 1) (zix ((79 : Int32) + a1))) then some (0 : Int32) else some (1 : Int32) else none
theorem mw_X8_isEmpty {E : ZE} {S : Zs} (hW : zWF S) (w : Zw) (a0 : Nat) (h0 : zObj S a0 8) (a1 : Int32) : zOk (E, i_X8_isEmpty, 0) 0 0 S w 0 [(0, .ref a0), (1, .int a1)] [] (emP eI S w) (f_X8_isEmpty S w a0 a1) := by
  unfold f_X8_isEmpty
  refine z_aload_n 0 dX8_isEmpty_0 rfl (z_getR zc8 1 (by decide) rfl gw1108 h0 (zW_some hW h0 1 rfl) dX8_isEmpty_1 (z_bipush dX8_isEmpty_4 zb_79 (z_iload_n 1 dX8_isEmpty_6 rfl (z_iadd dX8_isEmpty_7 ?_))))
  refine z_chk (fun c1 => ?_)
  refine z_iald (zW_arr hW h0 1 0 rfl) c1 dX8_isEmpty_8 ?_
  refine z_if_ge 16 dX8_isEmpty_9 rfl (fun q2 => ?_) (fun q2 => ?_)
  · refine z_iconst dX8_isEmpty_16 zi_0 ?_
    exact z_zret zemP rfl rfl dX8_isEmpty_17
  · refine z_iconst dX8_isEmpty_12 zi_1 (z_goto 17 dX8_isEmpty_13 rfl ?_)
    exact z_zret zemP rfl rfl dX8_isEmpty_17

theorem m_X8_isEmpty {E : ZE} {S : Zs} (hW : zWF S) (w : Zw) (a0 : Nat) (h0 : zObj S a0 8) (a1 : Int32) : ∀ i, f_X8_isEmpty S w a0 a1 = some i → zMr E yX8_isEmpty cX8_isEmpty 2 ((some .boolean)) 0 0 0 [.ref a0, .int a1] S w ((emP eI S w) i) :=
  fun i hi => z_enter (by decide +kernel) (Nat.le_of_ble_eq_true rfl) (mw_X8_isEmpty hW w a0 h0 a1 i hi)
/-! ParkingRobotModel.isReached (I)Z : P, depth 1 -/
abbrev i_X8_isReached : Zm := (yX8_isReached.cls, cX8_isReached, 2, (some .boolean), [], yX8_isReached.name)
def f_X8_isReached (S : Zs) (w : Zw) (a0 : Nat) (a1 : Int32) : Option (Int32) :=
  if (f_X8_depth a1) = 0 then some (1 : Int32) else (f_X8_isEmpty S w a0 (a1 - (1 : Int32))).bind fun v2 => if v2 = 0 then some (0 : Int32) else some (1 : Int32)
theorem mw_X8_isReached {E : ZE} {S : Zs} (hW : zWF S) (w : Zw) (a0 : Nat) (h0 : zObj S a0 8) (a1 : Int32) : zOk (E, i_X8_isReached, 1) 0 0 S w 0 [(0, .ref a0), (1, .int a1)] [] (emP eI S w) (f_X8_isReached S w a0 a1) := by
  unfold f_X8_isReached
  refine z_iload_n 1 dX8_isReached_0 rfl ?_
  refine z_callS (kc' := 0) (ks' := 0) (v := (some (.int (f_X8_depth a1)))) (S1 := S) (w1 := w) (st := []) [.int a1] (m_X8_depth hW w a1) zy_X8_depth gw1236 gw1235 (Nat.le_of_ble_eq_true rfl) (Nat.le_of_ble_eq_true rfl) (Nat.le_of_ble_eq_true rfl) (Nat.le_of_ble_eq_true rfl) (zal hW) rfl dX8_isReached_1 (z_at 4 _ [.int (f_X8_depth a1)] rfl rfl rfl ?_)
  refine z_if_eq 17 dX8_isReached_4 rfl (fun q1 => ?_) (fun q1 => ?_)
  · refine z_iconst dX8_isReached_17 zi_1 (z_goto 22 dX8_isReached_18 rfl ?_)
    exact z_zret zemP rfl rfl dX8_isReached_22
  · refine z_aload_n 0 dX8_isReached_7 rfl (z_iload_n 1 dX8_isReached_8 rfl (z_iconst dX8_isReached_9 zi_1 (z_isub dX8_isReached_10 ?_)))
    refine z_bind (fun v2 hb3 => ?_)
    refine z_callV (kc' := 0) (ks' := 0) (v := (some (.int v2))) (S1 := S) (w1 := w) (st := []) [.int (a1 - (1 : Int32))] (m_X8_isEmpty hW w a0 h0 (a1 - (1 : Int32)) v2 hb3) zc8 h0 zy_X8_isEmpty gw1223 gp29 gw1221 (Nat.le_of_ble_eq_true rfl) (Nat.le_of_ble_eq_true rfl) (Nat.le_of_ble_eq_true rfl) (Nat.le_of_ble_eq_true rfl) (zal hW) rfl dX8_isReached_11 (z_at 14 _ [.int v2] rfl rfl rfl ?_)
    refine z_if_eq 21 dX8_isReached_14 rfl (fun q4 => ?_) (fun q4 => ?_)
    · refine z_iconst dX8_isReached_21 zi_0 ?_
      exact z_zret zemP rfl rfl dX8_isReached_22
    · refine z_iconst dX8_isReached_17 zi_1 (z_goto 22 dX8_isReached_18 rfl ?_)
      exact z_zret zemP rfl rfl dX8_isReached_22

theorem m_X8_isReached {E : ZE} {S : Zs} (hW : zWF S) (w : Zw) (a0 : Nat) (h0 : zObj S a0 8) (a1 : Int32) : ∀ i, f_X8_isReached S w a0 a1 = some i → zMr E yX8_isReached cX8_isReached 2 ((some .boolean)) 1 0 0 [.ref a0, .int a1] S w ((emP eI S w) i) :=
  fun i hi => z_enter (by decide +kernel) (Nat.le_of_ble_eq_true rfl) (mw_X8_isReached hW w a0 h0 a1 i hi)
/-! ParkingRobotModel.bay (II)I : W, depth 2 -/
abbrev i_X8_bay : Zm := (yX8_bay.cls, cX8_bay, 3, (some .int), [], yX8_bay.name)
def f_X8_bay (S : Zs) (w : Zw) (a0 : Nat) (a1 : Int32) (a2 : Int32) : Option (Int32 × Zw) :=
  zlet (zput w a0 0 (0 : Int32)) fun w1 => (f_X8_isBay a1).bind fun v2 => if v2 = 0 then (f_X8_fails S w1 a0 (1 : Int32)).bind fun r23 => some (r23.1, r23.2) else if a2 = (0 : Int32) then (some ((f_X8_level a1), w1)) else if a2 = (1 : Int32) then (some ((f_X8_side a1), w1)) else if a2 = (2 : Int32) then (some ((f_X8_column a1), w1)) else if a2 = (3 : Int32) then (some ((f_X8_depth a1), w1)) else if a2 = (4 : Int32) then ((f_X8_isWide a1).bind fun v10 => if v10 = 0 then some ((0 : Int32), w1) else some ((1 : Int32), w1)) else if a2 = (5 : Int32) then (if zin ((19 : Int32) + a1) (zlen S (zr S a0 1)) = true then some ((w1 (zr S a0 1) (zix ((19 : Int32) + a1))), w1) else none) else if a2 = (6 : Int32) then (if zin ((79 : Int32) + a1) (zlen S (zr S a0 1)) = true then some ((w1 (zr S a0 1) (zix ((79 : Int32) + a1))), w1) else none) else if a2 = (7 : Int32) then ((f_X8_isReached S w1 a0 a1).bind fun v18 => if v18 = 0 then some ((0 : Int32), w1) else some ((1 : Int32), w1)) else ((f_X8_fails S w1 a0 (2 : Int32)).bind fun r21 => some (r21.1, r21.2))
theorem mw_X8_bay {E : ZE} {S : Zs} (hW : zWF S) (w : Zw) (a0 : Nat) (h0 : zObj S a0 8) (a1 : Int32) (a2 : Int32) : zOk (E, i_X8_bay, 2) 0 0 S w 0 [(0, .ref a0), (1, .int a1), (2, .int a2)] [] (emW eI S) (f_X8_bay S w a0 a1 a2) := by
  unfold f_X8_bay
  refine z_aload_n 0 dX8_bay_0 rfl (z_iconst dX8_bay_1 zi_0 ?_)
  refine z_putI zc8 0 (by decide) (Or.inl rfl) rfl gw1107 h0 dX8_bay_2 (z_letw (fun w1 => ?_))
  refine z_iload_n 1 dX8_bay_5 rfl ?_
  refine z_bind (fun v2 hb3 => ?_)
  refine z_callS (kc' := 0) (ks' := 0) (v := (some (.int v2))) (S1 := S) (w1 := w1) (st := []) [.int a1] (m_X8_isBay hW w1 a1 v2 hb3) zy_X8_isBay gw1352 gw1351 (Nat.le_of_ble_eq_true rfl) (Nat.le_of_ble_eq_true rfl) (Nat.le_of_ble_eq_true rfl) (Nat.le_of_ble_eq_true rfl) (zal hW) rfl dX8_bay_6 (z_at 9 _ [.int v2] rfl rfl rfl ?_)
  refine z_if_ne 18 dX8_bay_9 rfl (fun q4 => ?_) (fun q4 => ?_)
  · refine z_iload_n 2 dX8_bay_18 rfl ?_
    refine z_ite _ (fun q5 => ?_) (fun q5 => ?_)
    · refine z_tabIn (off := 45) 64 dX8_bay_19 (by rw [q5]; decide) (by rw [q5]; decide) (by rw [q5]; decide) rfl ?_
      refine z_iload_n 1 dX8_bay_64 rfl ?_
      refine z_callS (kc' := 0) (ks' := 0) (v := (some (.int (f_X8_level a1)))) (S1 := S) (w1 := w1) (st := []) [.int a1] (m_X8_level hW w1 a1) zy_X8_level gw1242 gw1241 (Nat.le_of_ble_eq_true rfl) (Nat.le_of_ble_eq_true rfl) (Nat.le_of_ble_eq_true rfl) (Nat.le_of_ble_eq_true rfl) (zal hW) rfl dX8_bay_65 (z_at 68 _ [.int (f_X8_level a1)] rfl rfl rfl ?_)
      exact z_iret zemW rfl dX8_bay_68
    refine z_ite _ (fun q6 => ?_) (fun q6 => ?_)
    · refine z_tabIn (off := 50) 69 dX8_bay_19 (by rw [q6]; decide) (by rw [q6]; decide) (by rw [q6]; decide) rfl ?_
      refine z_iload_n 1 dX8_bay_69 rfl ?_
      refine z_callS (kc' := 0) (ks' := 0) (v := (some (.int (f_X8_side a1)))) (S1 := S) (w1 := w1) (st := []) [.int a1] (m_X8_side hW w1 a1) zy_X8_side gw1359 gw1358 (Nat.le_of_ble_eq_true rfl) (Nat.le_of_ble_eq_true rfl) (Nat.le_of_ble_eq_true rfl) (Nat.le_of_ble_eq_true rfl) (zal hW) rfl dX8_bay_70 (z_at 73 _ [.int (f_X8_side a1)] rfl rfl rfl ?_)
      exact z_iret zemW rfl dX8_bay_73
    refine z_ite _ (fun q7 => ?_) (fun q7 => ?_)
    · refine z_tabIn (off := 55) 74 dX8_bay_19 (by rw [q7]; decide) (by rw [q7]; decide) (by rw [q7]; decide) rfl ?_
      refine z_iload_n 1 dX8_bay_74 rfl ?_
      refine z_callS (kc' := 0) (ks' := 0) (v := (some (.int (f_X8_column a1)))) (S1 := S) (w1 := w1) (st := []) [.int a1] (m_X8_column hW w1 a1) zy_X8_column gw1229 gw1228 (Nat.le_of_ble_eq_true rfl) (Nat.le_of_ble_eq_true rfl) (Nat.le_of_ble_eq_true rfl) (Nat.le_of_ble_eq_true rfl) (zal hW) rfl dX8_bay_75 (z_at 78 _ [.int (f_X8_column a1)] rfl rfl rfl ?_)
      exact z_iret zemW rfl dX8_bay_78
    refine z_ite _ (fun q8 => ?_) (fun q8 => ?_)
    · refine z_tabIn (off := 60) 79 dX8_bay_19 (by rw [q8]; decide) (by rw [q8]; decide) (by rw [q8]; decide) rfl ?_
      refine z_iload_n 1 dX8_bay_79 rfl ?_
      refine z_callS (kc' := 0) (ks' := 0) (v := (some (.int (f_X8_depth a1)))) (S1 := S) (w1 := w1) (st := []) [.int a1] (m_X8_depth hW w1 a1) zy_X8_depth gw1236 gw1235 (Nat.le_of_ble_eq_true rfl) (Nat.le_of_ble_eq_true rfl) (Nat.le_of_ble_eq_true rfl) (Nat.le_of_ble_eq_true rfl) (zal hW) rfl dX8_bay_80 (z_at 83 _ [.int (f_X8_depth a1)] rfl rfl rfl ?_)
      exact z_iret zemW rfl dX8_bay_83
    refine z_ite _ (fun q9 => ?_) (fun q9 => ?_)
    · refine z_tabIn (off := 65) 84 dX8_bay_19 (by rw [q9]; decide) (by rw [q9]; decide) (by rw [q9]; decide) rfl ?_
      refine z_iload_n 1 dX8_bay_84 rfl ?_
      refine z_bind (fun v10 hb11 => ?_)
      refine z_callS (kc' := 0) (ks' := 0) (v := (some (.int v10))) (S1 := S) (w1 := w1) (st := []) [.int a1] (m_X8_isWide hW w1 a1 v10 hb11) zy_X8_isWide gw1226 gw1225 (Nat.le_of_ble_eq_true rfl) (Nat.le_of_ble_eq_true rfl) (Nat.le_of_ble_eq_true rfl) (Nat.le_of_ble_eq_true rfl) (zal hW) rfl dX8_bay_85 (z_at 88 _ [.int v10] rfl rfl rfl ?_)
      refine z_if_eq 95 dX8_bay_88 rfl (fun q12 => ?_) (fun q12 => ?_)
      · refine z_iconst dX8_bay_95 zi_0 ?_
        exact z_iret zemW rfl dX8_bay_96
      · refine z_iconst dX8_bay_91 zi_1 (z_goto 96 dX8_bay_92 rfl ?_)
        exact z_iret zemW rfl dX8_bay_96
    refine z_ite _ (fun q13 => ?_) (fun q13 => ?_)
    · refine z_tabIn (off := 78) 97 dX8_bay_19 (by rw [q13]; decide) (by rw [q13]; decide) (by rw [q13]; decide) rfl ?_
      refine z_aload_n 0 dX8_bay_97 rfl (z_getR zc8 1 (by decide) rfl gw1108 h0 (zW_some hW h0 1 rfl) dX8_bay_98 (z_bipush dX8_bay_101 zb_19 (z_iload_n 1 dX8_bay_103 rfl (z_iadd dX8_bay_104 ?_))))
      refine z_chk (fun c14 => ?_)
      refine z_iald (zW_arr hW h0 1 0 rfl) c14 dX8_bay_105 ?_
      exact z_iret zemW rfl dX8_bay_106
    refine z_ite _ (fun q15 => ?_) (fun q15 => ?_)
    · refine z_tabIn (off := 88) 107 dX8_bay_19 (by rw [q15]; decide) (by rw [q15]; decide) (by rw [q15]; decide) rfl ?_
      refine z_aload_n 0 dX8_bay_107 rfl (z_getR zc8 1 (by decide) rfl gw1108 h0 (zW_some hW h0 1 rfl) dX8_bay_108 (z_bipush dX8_bay_111 zb_79 (z_iload_n 1 dX8_bay_113 rfl (z_iadd dX8_bay_114 ?_))))
      refine z_chk (fun c16 => ?_)
      refine z_iald (zW_arr hW h0 1 0 rfl) c16 dX8_bay_115 ?_
      exact z_iret zemW rfl dX8_bay_116
    refine z_ite _ (fun q17 => ?_) (fun q17 => ?_)
    · refine z_tabIn (off := 98) 117 dX8_bay_19 (by rw [q17]; decide) (by rw [q17]; decide) (by rw [q17]; decide) rfl ?_
      refine z_aload_n 0 dX8_bay_117 rfl (z_iload_n 1 dX8_bay_118 rfl ?_)
      refine z_bind (fun v18 hb19 => ?_)
      refine z_callV (kc' := 0) (ks' := 0) (v := (some (.int v18))) (S1 := S) (w1 := w1) (st := []) [.int a1] (m_X8_isReached hW w1 a0 h0 a1 v18 hb19) zc8 h0 zy_X8_isReached gw1233 gp30 gw1231 (Nat.le_of_ble_eq_true rfl) (Nat.le_of_ble_eq_true rfl) (Nat.le_of_ble_eq_true rfl) (Nat.le_of_ble_eq_true rfl) (zal hW) rfl dX8_bay_119 (z_at 122 _ [.int v18] rfl rfl rfl ?_)
      refine z_if_eq 129 dX8_bay_122 rfl (fun q20 => ?_) (fun q20 => ?_)
      · refine z_iconst dX8_bay_129 zi_0 ?_
        exact z_iret zemW rfl dX8_bay_130
      · refine z_iconst dX8_bay_125 zi_1 (z_goto 130 dX8_bay_126 rfl ?_)
        exact z_iret zemW rfl dX8_bay_130
    refine z_tabOut 131 dX8_bay_19 ?_ rfl ?_
    · have n0 := zsw_ne (k := 0) (0 : Int32) (by decide) q5; have n1 := zsw_ne (k := 1) (1 : Int32) (by decide) q6; have n2 := zsw_ne (k := 2) (2 : Int32) (by decide) q7; have n3 := zsw_ne (k := 3) (3 : Int32) (by decide) q8; have n4 := zsw_ne (k := 4) (4 : Int32) (by decide) q9; have n5 := zsw_ne (k := 5) (5 : Int32) (by decide) q13; have n6 := zsw_ne (k := 6) (6 : Int32) (by decide) q15; have n7 := zsw_ne (k := 7) (7 : Int32) (by decide) q17; omega
    refine z_aload_n 0 dX8_bay_131 rfl (z_iconst dX8_bay_132 zi_2 ?_)
    refine z_bind (fun r21 hb22 => ?_)
    refine z_callV (kc' := 0) (ks' := 0) (v := (some (.int r21.1))) (S1 := S) (w1 := r21.2) (st := []) [.int (2 : Int32)] (m_X8_fails hW w1 a0 h0 (2 : Int32) r21 hb22) zc8 h0 zy_X8_fails gw1215 gp27 gw1213 (Nat.le_of_ble_eq_true rfl) (Nat.le_of_ble_eq_true rfl) (Nat.le_of_ble_eq_true rfl) (Nat.le_of_ble_eq_true rfl) (zal hW) rfl dX8_bay_133 (z_at 136 _ [.int r21.1] rfl rfl rfl ?_)
    exact z_iret zemW rfl dX8_bay_136
  · refine z_aload_n 0 dX8_bay_12 rfl (z_iconst dX8_bay_13 zi_1 ?_)
    refine z_bind (fun r23 hb24 => ?_)
    refine z_callV (kc' := 0) (ks' := 0) (v := (some (.int r23.1))) (S1 := S) (w1 := r23.2) (st := []) [.int (1 : Int32)] (m_X8_fails hW w1 a0 h0 (1 : Int32) r23 hb24) zc8 h0 zy_X8_fails gw1215 gp27 gw1213 (Nat.le_of_ble_eq_true rfl) (Nat.le_of_ble_eq_true rfl) (Nat.le_of_ble_eq_true rfl) (Nat.le_of_ble_eq_true rfl) (zal hW) rfl dX8_bay_14 (z_at 17 _ [.int r23.1] rfl rfl rfl ?_)
    exact z_iret zemW rfl dX8_bay_17

theorem m_X8_bay {E : ZE} {S : Zs} (hW : zWF S) (w : Zw) (a0 : Nat) (h0 : zObj S a0 8) (a1 : Int32) (a2 : Int32) : ∀ i, f_X8_bay S w a0 a1 a2 = some i → zMr E yX8_bay cX8_bay 3 ((some .int)) 2 0 0 [.ref a0, .int a1, .int a2] S w ((emW eI S) i) :=
  fun i hi => z_enter (by decide +kernel) (Nat.le_of_ble_eq_true rfl) (mw_X8_bay hW w a0 h0 a1 a2 i hi)
/-! ParkingRobotModel.of (II)I : P, depth 0 -/
abbrev i_X8_of : Zm := (yX8_of.cls, cX8_of, 3, (some .int), [], yX8_of.name)
def f_X8_of (S : Zs) (w : Zw) (a0 : Nat) (a1 : Int32) (a2 : Int32) : Option (Int32) :=
  if zin (((139 : Int32) + ((4 : Int32) * a1)) + a2) (zlen S (zr S a0 1)) = true then some (w (zr S a0 1) (zix (((139 : Int32) + ((4 : Int32) * a1)) + a2))) else none
theorem mw_X8_of {E : ZE} {S : Zs} (hW : zWF S) (w : Zw) (a0 : Nat) (h0 : zObj S a0 8) (a1 : Int32) (a2 : Int32) : zOk (E, i_X8_of, 0) 0 0 S w 0 [(0, .ref a0), (1, .int a1), (2, .int a2)] [] (emP eI S w) (f_X8_of S w a0 a1 a2) := by
  unfold f_X8_of
  refine z_aload_n 0 dX8_of_0 rfl (z_getR zc8 1 (by decide) rfl gw1108 h0 (zW_some hW h0 1 rfl) dX8_of_1 (z_sipush dX8_of_4 zs_139 (z_iconst dX8_of_7 zi_4 (z_iload_n 1 dX8_of_8 rfl (z_imul dX8_of_9 ?_)))))
  refine z_iadd dX8_of_10 (z_iload_n 2 dX8_of_11 rfl (z_iadd dX8_of_12 ?_))
  refine z_chk (fun c1 => ?_)
  refine z_iald (zW_arr hW h0 1 0 rfl) c1 dX8_of_13 ?_
  exact z_iret zemP rfl dX8_of_14

theorem m_X8_of {E : ZE} {S : Zs} (hW : zWF S) (w : Zw) (a0 : Nat) (h0 : zObj S a0 8) (a1 : Int32) (a2 : Int32) : ∀ i, f_X8_of S w a0 a1 a2 = some i → zMr E yX8_of cX8_of 3 ((some .int)) 0 0 0 [.ref a0, .int a1, .int a2] S w ((emP eI S w) i) :=
  fun i hi => z_enter (by decide +kernel) (Nat.le_of_ble_eq_true rfl) (mw_X8_of hW w a0 h0 a1 a2 i hi)
/-! ParkingRobotModel.bayOf (I)I : P, depth 1 -/
abbrev i_X8_bayOf : Zm := (yX8_bayOf.cls, cX8_bayOf, 2, (some .int), [], yX8_bayOf.name)
def f_X8_bayOf (S : Zs) (w : Zw) (a0 : Nat) (a1 : Int32) : Option (Int32) :=
  (f_X8_of S w a0 a1 (2 : Int32)).bind fun v1 => some v1
theorem mw_X8_bayOf {E : ZE} {S : Zs} (hW : zWF S) (w : Zw) (a0 : Nat) (h0 : zObj S a0 8) (a1 : Int32) : zOk (E, i_X8_bayOf, 1) 0 0 S w 0 [(0, .ref a0), (1, .int a1)] [] (emP eI S w) (f_X8_bayOf S w a0 a1) := by
  unfold f_X8_bayOf
  refine z_aload_n 0 dX8_bayOf_0 rfl (z_iload_n 1 dX8_bayOf_1 rfl (z_iconst dX8_bayOf_2 zi_2 ?_))
  refine z_bind (fun v1 hb2 => ?_)
  refine z_callV (kc' := 0) (ks' := 0) (v := (some (.int v1))) (S1 := S) (w1 := w) (st := []) [.int a1, .int (2 : Int32)] (m_X8_of hW w a0 h0 a1 (2 : Int32) v1 hb2) zc8 h0 zy_X8_of gw1255 gp33 gw1253 (Nat.le_of_ble_eq_true rfl) (Nat.le_of_ble_eq_true rfl) (Nat.le_of_ble_eq_true rfl) (Nat.le_of_ble_eq_true rfl) (zal hW) rfl dX8_bayOf_3 (z_at 6 _ [.int v1] rfl rfl rfl ?_)
  exact z_iret zemP rfl dX8_bayOf_6

theorem m_X8_bayOf {E : ZE} {S : Zs} (hW : zWF S) (w : Zw) (a0 : Nat) (h0 : zObj S a0 8) (a1 : Int32) : ∀ i, f_X8_bayOf S w a0 a1 = some i → zMr E yX8_bayOf cX8_bayOf 2 ((some .int)) 1 0 0 [.ref a0, .int a1] S w ((emP eI S w) i) :=
  fun i hi => z_enter (by decide +kernel) (Nat.le_of_ble_eq_true rfl) (mw_X8_bayOf hW w a0 h0 a1 i hi)
/-! ParkingRobotModel.blocking (I)I : P, depth 2 -/
abbrev i_X8_blocking : Zm := (yX8_blocking.cls, cX8_blocking, 2, (some .int), [], yX8_blocking.name)
def f_X8_blocking (S : Zs) (w : Zw) (a0 : Nat) (a1 : Int32) : Option (Int32) :=
  (f_X8_bayOf S w a0 a1).bind fun v1 => if (f_X8_depth v1) = (1 : Int32) then (f_X8_bayOf S w a0 a1).bind fun v4 => if zin (((79 : Int32) + v4) - (1 : Int32)) (zlen S (zr S a0 1)) = true then some (w (zr S a0 1) (zix (((79 : Int32) + v4) - (1 : Int32)))) else none else some (-1 : Int32)
theorem mw_X8_blocking {E : ZE} {S : Zs} (hW : zWF S) (w : Zw) (a0 : Nat) (h0 : zObj S a0 8) (a1 : Int32) : zOk (E, i_X8_blocking, 2) 0 0 S w 0 [(0, .ref a0), (1, .int a1)] [] (emP eI S w) (f_X8_blocking S w a0 a1) := by
  unfold f_X8_blocking
  refine z_aload_n 0 dX8_blocking_0 rfl (z_iload_n 1 dX8_blocking_1 rfl ?_)
  refine z_bind (fun v1 hb2 => ?_)
  refine z_callV (kc' := 0) (ks' := 0) (v := (some (.int v1))) (S1 := S) (w1 := w) (st := []) [.int a1] (m_X8_bayOf hW w a0 h0 a1 v1 hb2) zc8 h0 zy_X8_bayOf gw1305 gp43 gw1303 (Nat.le_of_ble_eq_true rfl) (Nat.le_of_ble_eq_true rfl) (Nat.le_of_ble_eq_true rfl) (Nat.le_of_ble_eq_true rfl) (zal hW) rfl dX8_blocking_2 (z_at 5 _ [.int v1] rfl rfl rfl ?_)
  refine z_callS (kc' := 0) (ks' := 0) (v := (some (.int (f_X8_depth v1)))) (S1 := S) (w1 := w) (st := []) [.int v1] (m_X8_depth hW w v1) zy_X8_depth gw1236 gw1235 (Nat.le_of_ble_eq_true rfl) (Nat.le_of_ble_eq_true rfl) (Nat.le_of_ble_eq_true rfl) (Nat.le_of_ble_eq_true rfl) (zal hW) rfl dX8_blocking_5 (z_at 8 _ [.int (f_X8_depth v1)] rfl rfl rfl ?_)
  refine z_iconst dX8_blocking_8 zi_1 ?_
  refine z_icmp_ne 30 dX8_blocking_9 rfl (fun q3 => ?_) (fun q3 => ?_)
  · refine z_iconst dX8_blocking_30 zi_m1 ?_
    exact z_iret zemP rfl dX8_blocking_31
  · refine z_aload_n 0 dX8_blocking_12 rfl (z_getR zc8 1 (by decide) rfl gw1108 h0 (zW_some hW h0 1 rfl) dX8_blocking_13 (z_bipush dX8_blocking_16 zb_79 (z_aload_n 0 dX8_blocking_18 rfl (z_iload_n 1 dX8_blocking_19 rfl ?_))))
    refine z_bind (fun v4 hb5 => ?_)
    refine z_callV (kc' := 0) (ks' := 0) (v := (some (.int v4))) (S1 := S) (w1 := w) (st := [.int (79 : Int32), .ref (zr S a0 1)]) [.int a1] (m_X8_bayOf hW w a0 h0 a1 v4 hb5) zc8 h0 zy_X8_bayOf gw1305 gp43 gw1303 (Nat.le_of_ble_eq_true rfl) (Nat.le_of_ble_eq_true rfl) (Nat.le_of_ble_eq_true rfl) (Nat.le_of_ble_eq_true rfl) (zal hW) rfl dX8_blocking_20 (z_at 23 _ [.int v4, .int (79 : Int32), .ref (zr S a0 1)] rfl rfl rfl ?_)
    refine z_iadd dX8_blocking_23 (z_iconst dX8_blocking_24 zi_1 (z_isub dX8_blocking_25 ?_))
    refine z_chk (fun c6 => ?_)
    refine z_iald (zW_arr hW h0 1 0 rfl) c6 dX8_blocking_26 (z_goto 31 dX8_blocking_27 rfl ?_)
    exact z_iret zemP rfl dX8_blocking_31

theorem m_X8_blocking {E : ZE} {S : Zs} (hW : zWF S) (w : Zw) (a0 : Nat) (h0 : zObj S a0 8) (a1 : Int32) : ∀ i, f_X8_blocking S w a0 a1 = some i → zMr E yX8_blocking cX8_blocking 2 ((some .int)) 2 0 0 [.ref a0, .int a1] S w ((emP eI S w) i) :=
  fun i hi => z_enter (by decide +kernel) (Nat.le_of_ble_eq_true rfl) (mw_X8_blocking hW w a0 h0 a1 i hi)
/-! ParkingRobotModel.pickup (I)I : P, depth 1 -/
abbrev i_X8_pickup : Zm := (yX8_pickup.cls, cX8_pickup, 2, (some .int), [], yX8_pickup.name)
def f_X8_pickup (S : Zs) (w : Zw) (a0 : Nat) (a1 : Int32) : Option (Int32) :=
  (f_X8_of S w a0 a1 (1 : Int32)).bind fun v1 => some v1
theorem mw_X8_pickup {E : ZE} {S : Zs} (hW : zWF S) (w : Zw) (a0 : Nat) (h0 : zObj S a0 8) (a1 : Int32) : zOk (E, i_X8_pickup, 1) 0 0 S w 0 [(0, .ref a0), (1, .int a1)] [] (emP eI S w) (f_X8_pickup S w a0 a1) := by
  unfold f_X8_pickup
  refine z_aload_n 0 dX8_pickup_0 rfl (z_iload_n 1 dX8_pickup_1 rfl (z_iconst dX8_pickup_2 zi_1 ?_))
  refine z_bind (fun v1 hb2 => ?_)
  refine z_callV (kc' := 0) (ks' := 0) (v := (some (.int v1))) (S1 := S) (w1 := w) (st := []) [.int a1, .int (1 : Int32)] (m_X8_of hW w a0 h0 a1 (1 : Int32) v1 hb2) zc8 h0 zy_X8_of gw1255 gp33 gw1253 (Nat.le_of_ble_eq_true rfl) (Nat.le_of_ble_eq_true rfl) (Nat.le_of_ble_eq_true rfl) (Nat.le_of_ble_eq_true rfl) (zal hW) rfl dX8_pickup_3 (z_at 6 _ [.int v1] rfl rfl rfl ?_)
  exact z_iret zemP rfl dX8_pickup_6

theorem m_X8_pickup {E : ZE} {S : Zs} (hW : zWF S) (w : Zw) (a0 : Nat) (h0 : zObj S a0 8) (a1 : Int32) : ∀ i, f_X8_pickup S w a0 a1 = some i → zMr E yX8_pickup cX8_pickup 2 ((some .int)) 1 0 0 [.ref a0, .int a1] S w ((emP eI S w) i) :=
  fun i hi => z_enter (by decide +kernel) (Nat.le_of_ble_eq_true rfl) (mw_X8_pickup hW w a0 h0 a1 i hi)
/-! ParkingRobotModel.isCounted (II)Z : P, depth 3 -/
abbrev i_X8_isCounted : Zm := (yX8_isCounted.cls, cX8_isCounted, 5, (some .boolean), [], yX8_isCounted.name)
def f_X8_isCounted_j51 (S : Zs) (w : Zw) (x0 : Nat) (x1 : Int32) (x2 : Int32) (x3 : Int32) (y0 : Int32) : Option (Int32) :=
  if x2 = (0 : Int32) then ((f_X8_isEmpty S w x0 x1).bind fun v10 => if v10 = 0 then some (1 : Int32) else some (0 : Int32)) else if x2 = (1 : Int32) then (if zb1 x3 = true then some x3 else none) else if x2 = (2 : Int32) then (if x3 = 0 then some (0 : Int32) else (f_X8_isReached S w x0 x1).bind fun v17 => if v17 = 0 then some (0 : Int32) else some (1 : Int32)) else if x2 = (3 : Int32) then (if zin ((19 : Int32) + x1) (zlen S (zr S x0 1)) = true then if (w (zr S x0 1) (zix ((19 : Int32) + x1))) = (1 : Int32) then some (1 : Int32) else some (0 : Int32) else none) else if x2 = (4 : Int32) then (if y0 < 0 then some (0 : Int32) else some (1 : Int32)) else (if y0 < 0 then some (0 : Int32) else if zin ((79 : Int32) + x1) (zlen S (zr S x0 1)) = true then (f_X8_pickup S w x0 (w (zr S x0 1) (zix ((79 : Int32) + x1)))).bind fun v27 => (f_X8_pickup S w x0 y0).bind fun v29 => if v29 ≤ v27 then some (0 : Int32) else some (1 : Int32) else none)
theorem m_X8_isCounted_j51 {E : ZE} {S : Zs} (hW : zWF S) (w : Zw) (x0 : Nat) (hx0 : zObj S x0 8) (x1 : Int32) (x2 : Int32) (x3 : Int32) (y0 : Int32) : zOk (E, i_X8_isCounted, 3) 0 0 S w 51 [(0, .ref x0), (1, .int x1), (2, .int x2), (3, .int x3)] [.int y0] (emP eI S w) (f_X8_isCounted_j51 S w x0 x1 x2 x3 y0) := by
  unfold f_X8_isCounted_j51
  refine z_istore (lv' := [(4, .int y0), (0, .ref x0), (1, .int x1), (2, .int x2), (3, .int x3)]) dX8_isCounted_51 (Nat.le_of_ble_eq_true rfl) rfl (z_iload_n 3 dX8_isCounted_53 rfl ?_)
  refine z_ite _ (fun q9 => ?_) (fun q9 => ?_)
  · refine z_tabIn (off := 34) 88 dX8_isCounted_54 (by rw [q9]; decide) (by rw [q9]; decide) (by rw [q9]; decide) rfl ?_
    refine z_aload_n 1 dX8_isCounted_88 rfl (z_iload_n 2 dX8_isCounted_89 rfl ?_)
    refine z_bind (fun v10 hb11 => ?_)
    refine z_callV (kc' := 0) (ks' := 0) (v := (some (.int v10))) (S1 := S) (w1 := w) (st := []) [.int x1] (m_X8_isEmpty hW w x0 hx0 x1 v10 hb11) zc8 hx0 zy_X8_isEmpty gw1223 gp29 gw1221 (Nat.le_of_ble_eq_true rfl) (Nat.le_of_ble_eq_true rfl) (Nat.le_of_ble_eq_true rfl) (Nat.le_of_ble_eq_true rfl) (zal hW) rfl dX8_isCounted_90 (z_at 93 _ [.int v10] rfl rfl rfl ?_)
    refine z_if_ne 100 dX8_isCounted_93 rfl (fun q12 => ?_) (fun q12 => ?_)
    · refine z_iconst dX8_isCounted_100 zi_0 ?_
      exact z_zret zemP rfl rfl dX8_isCounted_101
    · refine z_iconst dX8_isCounted_96 zi_1 (z_goto 101 dX8_isCounted_97 rfl ?_)
      exact z_zret zemP rfl rfl dX8_isCounted_101
  refine z_ite _ (fun q13 => ?_) (fun q13 => ?_)
  · refine z_tabIn (off := 48) 102 dX8_isCounted_54 (by rw [q13]; decide) (by rw [q13]; decide) (by rw [q13]; decide) rfl ?_
    refine z_iload_n 4 dX8_isCounted_102 rfl ?_
    refine z_chk (fun c14 => ?_)
    exact z_zret zemP rfl (zb1_nar c14) dX8_isCounted_103
  refine z_ite _ (fun q15 => ?_) (fun q15 => ?_)
  · refine z_tabIn (off := 50) 104 dX8_isCounted_54 (by rw [q15]; decide) (by rw [q15]; decide) (by rw [q15]; decide) rfl ?_
    refine z_iload_n 4 dX8_isCounted_104 rfl ?_
    refine z_if_eq 120 dX8_isCounted_105 rfl (fun q16 => ?_) (fun q16 => ?_)
    · refine z_iconst dX8_isCounted_120 zi_0 ?_
      exact z_zret zemP rfl rfl dX8_isCounted_121
    · refine z_aload_n 1 dX8_isCounted_108 rfl (z_iload_n 2 dX8_isCounted_109 rfl ?_)
      refine z_bind (fun v17 hb18 => ?_)
      refine z_callV (kc' := 0) (ks' := 0) (v := (some (.int v17))) (S1 := S) (w1 := w) (st := []) [.int x1] (m_X8_isReached hW w x0 hx0 x1 v17 hb18) zc8 hx0 zy_X8_isReached gw1233 gp30 gw1231 (Nat.le_of_ble_eq_true rfl) (Nat.le_of_ble_eq_true rfl) (Nat.le_of_ble_eq_true rfl) (Nat.le_of_ble_eq_true rfl) (zal hW) rfl dX8_isCounted_110 (z_at 113 _ [.int v17] rfl rfl rfl ?_)
      refine z_if_eq 120 dX8_isCounted_113 rfl (fun q19 => ?_) (fun q19 => ?_)
      · refine z_iconst dX8_isCounted_120 zi_0 ?_
        exact z_zret zemP rfl rfl dX8_isCounted_121
      · refine z_iconst dX8_isCounted_116 zi_1 (z_goto 121 dX8_isCounted_117 rfl ?_)
        exact z_zret zemP rfl rfl dX8_isCounted_121
  refine z_ite _ (fun q20 => ?_) (fun q20 => ?_)
  · refine z_tabIn (off := 68) 122 dX8_isCounted_54 (by rw [q20]; decide) (by rw [q20]; decide) (by rw [q20]; decide) rfl ?_
    refine z_aload_n 1 dX8_isCounted_122 rfl (z_getR zc8 1 (by decide) rfl gw1108 hx0 (zW_some hW hx0 1 rfl) dX8_isCounted_123 (z_bipush dX8_isCounted_126 zb_19 (z_iload_n 2 dX8_isCounted_128 rfl (z_iadd dX8_isCounted_129 ?_))))
    refine z_chk (fun c21 => ?_)
    refine z_iald (zW_arr hW hx0 1 0 rfl) c21 dX8_isCounted_130 (z_iconst dX8_isCounted_131 zi_1 ?_)
    refine z_icmp_ne 139 dX8_isCounted_132 rfl (fun q22 => ?_) (fun q22 => ?_)
    · refine z_iconst dX8_isCounted_139 zi_0 ?_
      exact z_zret zemP rfl rfl dX8_isCounted_140
    · refine z_iconst dX8_isCounted_135 zi_1 (z_goto 140 dX8_isCounted_136 rfl ?_)
      exact z_zret zemP rfl rfl dX8_isCounted_140
  refine z_ite _ (fun q23 => ?_) (fun q23 => ?_)
  · refine z_tabIn (off := 87) 141 dX8_isCounted_54 (by rw [q23]; decide) (by rw [q23]; decide) (by rw [q23]; decide) rfl ?_
    refine z_iload 0 dX8_isCounted_141 rfl ?_
    refine z_if_lt 150 dX8_isCounted_143 rfl (fun q24 => ?_) (fun q24 => ?_)
    · refine z_iconst dX8_isCounted_150 zi_0 ?_
      exact z_zret zemP rfl rfl dX8_isCounted_151
    · refine z_iconst dX8_isCounted_146 zi_1 (z_goto 151 dX8_isCounted_147 rfl ?_)
      exact z_zret zemP rfl rfl dX8_isCounted_151
  refine z_tabOut 152 dX8_isCounted_54 ?_ rfl ?_
  · have n0 := zsw_ne (k := 0) (0 : Int32) (by decide) q9; have n1 := zsw_ne (k := 1) (1 : Int32) (by decide) q13; have n2 := zsw_ne (k := 2) (2 : Int32) (by decide) q15; have n3 := zsw_ne (k := 3) (3 : Int32) (by decide) q20; have n4 := zsw_ne (k := 4) (4 : Int32) (by decide) q23; omega
  refine z_iload 0 dX8_isCounted_152 rfl ?_
  refine z_if_lt 183 dX8_isCounted_154 rfl (fun q25 => ?_) (fun q25 => ?_)
  · refine z_iconst dX8_isCounted_183 zi_0 ?_
    exact z_zret zemP rfl rfl dX8_isCounted_184
  · refine z_aload_n 1 dX8_isCounted_157 rfl (z_aload_n 1 dX8_isCounted_158 rfl (z_getR zc8 1 (by decide) rfl gw1108 hx0 (zW_some hW hx0 1 rfl) dX8_isCounted_159 (z_bipush dX8_isCounted_162 zb_79 (z_iload_n 2 dX8_isCounted_164 rfl (z_iadd dX8_isCounted_165 ?_)))))
    refine z_chk (fun c26 => ?_)
    refine z_iald (zW_arr hW hx0 1 0 rfl) c26 dX8_isCounted_166 ?_
    refine z_bind (fun v27 hb28 => ?_)
    refine z_callV (kc' := 0) (ks' := 0) (v := (some (.int v27))) (S1 := S) (w1 := w) (st := []) [.int (w (zr S x0 1) (zix ((79 : Int32) + x1)))] (m_X8_pickup hW w x0 hx0 (w (zr S x0 1) (zix ((79 : Int32) + x1))) v27 hb28) zc8 hx0 zy_X8_pickup gw1251 gp32 gw1249 (Nat.le_of_ble_eq_true rfl) (Nat.le_of_ble_eq_true rfl) (Nat.le_of_ble_eq_true rfl) (Nat.le_of_ble_eq_true rfl) (zal hW) rfl dX8_isCounted_167 (z_at 170 _ [.int v27] rfl rfl rfl ?_)
    refine z_aload_n 1 dX8_isCounted_170 rfl (z_iload 0 dX8_isCounted_171 rfl ?_)
    refine z_bind (fun v29 hb30 => ?_)
    refine z_callV (kc' := 0) (ks' := 0) (v := (some (.int v29))) (S1 := S) (w1 := w) (st := [.int v27]) [.int y0] (m_X8_pickup hW w x0 hx0 y0 v29 hb30) zc8 hx0 zy_X8_pickup gw1251 gp32 gw1249 (Nat.le_of_ble_eq_true rfl) (Nat.le_of_ble_eq_true rfl) (Nat.le_of_ble_eq_true rfl) (Nat.le_of_ble_eq_true rfl) (zal hW) rfl dX8_isCounted_173 (z_at 176 _ [.int v29, .int v27] rfl rfl rfl ?_)
    refine z_icmp_ge 183 dX8_isCounted_176 rfl (fun q31 => ?_) (fun q31 => ?_)
    · refine z_iconst dX8_isCounted_183 zi_0 ?_
      exact z_zret zemP rfl rfl dX8_isCounted_184
    · refine z_iconst dX8_isCounted_179 zi_1 (z_goto 184 dX8_isCounted_180 rfl ?_)
      exact z_zret zemP rfl rfl dX8_isCounted_184

def f_X8_isCounted_j25 (S : Zs) (w : Zw) (x0 : Nat) (x1 : Int32) (x2 : Int32) (y0 : Int32) : Option (Int32) :=
  (f_X8_isEmpty S w x0 x1).bind fun v3 => if v3 = 0 then (if zin ((79 : Int32) + x1) (zlen S (zr S x0 1)) = true then (f_X8_blocking S w x0 (w (zr S x0 1) (zix ((79 : Int32) + x1)))).bind fun v7 => f_X8_isCounted_j51 S w x0 x1 x2 y0 v7  else none) else f_X8_isCounted_j51 S w x0 x1 x2 y0 (-1 : Int32) 
theorem m_X8_isCounted_j25 {E : ZE} {S : Zs} (hW : zWF S) (w : Zw) (x0 : Nat) (hx0 : zObj S x0 8) (x1 : Int32) (x2 : Int32) (y0 : Int32) : zOk (E, i_X8_isCounted, 3) 0 0 S w 25 [(0, .ref x0), (1, .int x1), (2, .int x2)] [.int y0] (emP eI S w) (f_X8_isCounted_j25 S w x0 x1 x2 y0) := by
  unfold f_X8_isCounted_j25
  refine z_istore_n (lv' := [(3, .int y0), (0, .ref x0), (1, .int x1), (2, .int x2)]) dX8_isCounted_25 (Nat.le_of_ble_eq_true rfl) rfl (z_aload_n 1 dX8_isCounted_26 rfl (z_iload_n 2 dX8_isCounted_27 rfl ?_))
  refine z_bind (fun v3 hb4 => ?_)
  refine z_callV (kc' := 0) (ks' := 0) (v := (some (.int v3))) (S1 := S) (w1 := w) (st := []) [.int x1] (m_X8_isEmpty hW w x0 hx0 x1 v3 hb4) zc8 hx0 zy_X8_isEmpty gw1223 gp29 gw1221 (Nat.le_of_ble_eq_true rfl) (Nat.le_of_ble_eq_true rfl) (Nat.le_of_ble_eq_true rfl) (Nat.le_of_ble_eq_true rfl) (zal hW) rfl dX8_isCounted_28 (z_at 31 _ [.int v3] rfl rfl rfl ?_)
  refine z_if_eq 38 dX8_isCounted_31 rfl (fun q5 => ?_) (fun q5 => ?_)
  · refine z_aload_n 1 dX8_isCounted_38 rfl (z_aload_n 1 dX8_isCounted_39 rfl (z_getR zc8 1 (by decide) rfl gw1108 hx0 (zW_some hW hx0 1 rfl) dX8_isCounted_40 (z_bipush dX8_isCounted_43 zb_79 (z_iload_n 2 dX8_isCounted_45 rfl (z_iadd dX8_isCounted_46 ?_)))))
    refine z_chk (fun c6 => ?_)
    refine z_iald (zW_arr hW hx0 1 0 rfl) c6 dX8_isCounted_47 ?_
    refine z_bind (fun v7 hb8 => ?_)
    refine z_callV (kc' := 0) (ks' := 0) (v := (some (.int v7))) (S1 := S) (w1 := w) (st := []) [.int (w (zr S x0 1) (zix ((79 : Int32) + x1)))] (m_X8_blocking hW w x0 hx0 (w (zr S x0 1) (zix ((79 : Int32) + x1))) v7 hb8) zc8 hx0 zy_X8_blocking gw1309 gp44 gw1307 (Nat.le_of_ble_eq_true rfl) (Nat.le_of_ble_eq_true rfl) (Nat.le_of_ble_eq_true rfl) (Nat.le_of_ble_eq_true rfl) (zal hW) rfl dX8_isCounted_48 (z_at 51 _ [.int v7] rfl rfl rfl ?_)
    refine z_sub (lv' := [(0, .ref x0), (1, .int x1), (2, .int x2), (3, .int y0)]) [1, 2, 3, 0] rfl ?_
    refine z_pc (pc' := 51) rfl ?_
    exact m_X8_isCounted_j51 hW w x0 hx0 x1 x2 y0 v7 
  · refine z_iconst dX8_isCounted_34 zi_m1 (z_goto 51 dX8_isCounted_35 rfl ?_)
    refine z_sub (lv' := [(0, .ref x0), (1, .int x1), (2, .int x2), (3, .int y0)]) [1, 2, 3, 0] rfl ?_
    refine z_pc (pc' := 51) rfl ?_
    exact m_X8_isCounted_j51 hW w x0 hx0 x1 x2 y0 (-1 : Int32) 

def f_X8_isCounted_j24 (S : Zs) (w : Zw) (x0 : Nat) (x1 : Int32) (x2 : Int32) : Option (Int32) :=
  f_X8_isCounted_j25 S w x0 x1 x2 (0 : Int32) 
theorem m_X8_isCounted_j24 {E : ZE} {S : Zs} (hW : zWF S) (w : Zw) (x0 : Nat) (hx0 : zObj S x0 8) (x1 : Int32) (x2 : Int32) : zOk (E, i_X8_isCounted, 3) 0 0 S w 24 [(0, .ref x0), (1, .int x1), (2, .int x2)] [] (emP eI S w) (f_X8_isCounted_j24 S w x0 x1 x2) := by
  unfold f_X8_isCounted_j24
  refine z_iconst dX8_isCounted_24 zi_0 ?_
  refine z_pc (pc' := 25) rfl ?_
  exact m_X8_isCounted_j25 hW w x0 hx0 x1 x2 (0 : Int32) 

def f_X8_isCounted (S : Zs) (w : Zw) (a0 : Nat) (a1 : Int32) (a2 : Int32) : Option (Int32) :=
  if zin ((19 : Int32) + a1) (zlen S (zr S a0 1)) = true then if (w (zr S a0 1) (zix ((19 : Int32) + a1))) = 0 then (f_X8_isEmpty S w a0 a1).bind fun v32 => if v32 = 0 then f_X8_isCounted_j24 S w a0 a1 a2  else f_X8_isCounted_j25 S w a0 a1 a2 (1 : Int32)  else f_X8_isCounted_j24 S w a0 a1 a2  else none
theorem mw_X8_isCounted {E : ZE} {S : Zs} (hW : zWF S) (w : Zw) (a0 : Nat) (h0 : zObj S a0 8) (a1 : Int32) (a2 : Int32) : zOk (E, i_X8_isCounted, 3) 0 0 S w 0 [(0, .ref a0), (1, .int a1), (2, .int a2)] [] (emP eI S w) (f_X8_isCounted S w a0 a1 a2) := by
  unfold f_X8_isCounted
  refine z_aload_n 0 dX8_isCounted_0 rfl (z_getR zc8 1 (by decide) rfl gw1108 h0 (zW_some hW h0 1 rfl) dX8_isCounted_1 (z_bipush dX8_isCounted_4 zb_19 (z_iload_n 1 dX8_isCounted_6 rfl (z_iadd dX8_isCounted_7 ?_))))
  refine z_chk (fun c1 => ?_)
  refine z_iald (zW_arr hW h0 1 0 rfl) c1 dX8_isCounted_8 ?_
  refine z_if_ne 24 dX8_isCounted_9 rfl (fun q2 => ?_) (fun q2 => ?_)
  · refine z_pc (pc' := 24) rfl ?_
    exact m_X8_isCounted_j24 hW w a0 h0 a1 a2 
  · refine z_aload_n 0 dX8_isCounted_12 rfl (z_iload_n 1 dX8_isCounted_13 rfl ?_)
    refine z_bind (fun v32 hb33 => ?_)
    refine z_callV (kc' := 0) (ks' := 0) (v := (some (.int v32))) (S1 := S) (w1 := w) (st := []) [.int a1] (m_X8_isEmpty hW w a0 h0 a1 v32 hb33) zc8 h0 zy_X8_isEmpty gw1223 gp29 gw1221 (Nat.le_of_ble_eq_true rfl) (Nat.le_of_ble_eq_true rfl) (Nat.le_of_ble_eq_true rfl) (Nat.le_of_ble_eq_true rfl) (zal hW) rfl dX8_isCounted_14 (z_at 17 _ [.int v32] rfl rfl rfl ?_)
    refine z_if_eq 24 dX8_isCounted_17 rfl (fun q34 => ?_) (fun q34 => ?_)
    · refine z_pc (pc' := 24) rfl ?_
      exact m_X8_isCounted_j24 hW w a0 h0 a1 a2 
    · refine z_iconst dX8_isCounted_20 zi_1 (z_goto 25 dX8_isCounted_21 rfl ?_)
      refine z_pc (pc' := 25) rfl ?_
      exact m_X8_isCounted_j25 hW w a0 h0 a1 a2 (1 : Int32) 

theorem m_X8_isCounted {E : ZE} {S : Zs} (hW : zWF S) (w : Zw) (a0 : Nat) (h0 : zObj S a0 8) (a1 : Int32) (a2 : Int32) : ∀ i, f_X8_isCounted S w a0 a1 a2 = some i → zMr E yX8_isCounted cX8_isCounted 5 ((some .boolean)) 3 0 0 [.ref a0, .int a1, .int a2] S w ((emP eI S w) i) :=
  fun i hi => z_enter (by decide +kernel) (Nat.le_of_ble_eq_true rfl) (mw_X8_isCounted hW w a0 h0 a1 a2 i hi)
/-! ParkingRobotModel.bays (I)I : W, depth 4 -/
abbrev i_X8_bays : Zm := (yX8_bays.cls, cX8_bays, 4, (some .int), [], yX8_bays.name)
def f_X8_bays_b24 (S : Zs) (w : Zw) (x0 : Nat) (x1 : Int32) (k : (Int32 × Int32) → Option (Int32 × Zw)) (x2 : Int32) (x3 : Int32) : Option (Int32 × Zw) :=
  if (60 : Int32) ≤ x3 then some (x2, w) else (f_X8_isCounted S w x0 x3 x1).bind fun v6 => if v6 = 0 then (zlet (x2 + (0 : Int32)) fun z9 => k (z9, (x3 + (1 : Int32)))) else (zlet (x2 + (1 : Int32)) fun z10 => k (z10, (x3 + (1 : Int32))))
def f_X8_bays_l24 (S : Zs) (w : Zw) (x0 : Nat) (x1 : Int32) (a : Int32 × Int32) : Option (Int32 × Zw) :=
  zlp (fun k a => f_X8_bays_b24 S w x0 x1 k a.1 a.2) zFU a
theorem m_X8_bays_l24 {E : ZE} {S : Zs} (hW : zWF S) (w : Zw) (x0 : Nat) (hx0 : zObj S x0 8) (x1 : Int32) : ∀ a : Int32 × Int32, zOk (E, i_X8_bays, 4) 0 0 S w 24 [(0, .ref x0), (1, .int x1), (2, .int a.1), (3, .int a.2)] [] (emW eI S) (f_X8_bays_l24 S w x0 x1 a) := by
  intro a
  refine z_lp (P := fun _ => True) (W9 := fun a : Int32 × Int32 => w) (L9 := fun a : Int32 × Int32 => [(0, .ref x0), (1, .int x1), (2, .int a.1), (3, .int a.2)]) (T9 := fun _ => []) (fun k hk9 a _ => ?_) zFU a trivial
  have hk : ∀ a : Int32 × Int32, zOk (E, i_X8_bays, 4) 0 0 S w 24 [(0, .ref x0), (1, .int x1), (2, .int a.1), (3, .int a.2)] [] (emW eI S) (k a) := fun a => hk9 a trivial
  clear hk9
  obtain ⟨x2, x3⟩ := a
  show zOk (E, i_X8_bays, 4) 0 0 S w 24 [(0, .ref x0), (1, .int x1), (2, .int x2), (3, .int x3)] [] (emW eI S) (f_X8_bays_b24 S w x0 x1 k x2 x3)
  unfold f_X8_bays_b24
  refine z_iload_n 3 dX8_bays_24 rfl (z_bipush dX8_bays_25 zb_60 ?_)
  refine z_icmp_ge 53 dX8_bays_27 rfl (fun q5 => ?_) (fun q5 => ?_)
  · refine z_iload_n 2 dX8_bays_53 rfl ?_
    exact z_iret zemW rfl dX8_bays_54
  · refine z_iload_n 2 dX8_bays_30 rfl (z_aload_n 0 dX8_bays_31 rfl (z_iload_n 3 dX8_bays_32 rfl (z_iload_n 1 dX8_bays_33 rfl ?_)))
    refine z_bind (fun v6 hb7 => ?_)
    refine z_callV (kc' := 0) (ks' := 0) (v := (some (.int v6))) (S1 := S) (w1 := w) (st := [.int x2]) [.int x3, .int x1] (m_X8_isCounted hW w x0 hx0 x3 x1 v6 hb7) zc8 hx0 zy_X8_isCounted gw1375 gp51 gw1373 (Nat.le_of_ble_eq_true rfl) (Nat.le_of_ble_eq_true rfl) (Nat.le_of_ble_eq_true rfl) (Nat.le_of_ble_eq_true rfl) (zal hW) rfl dX8_bays_34 (z_at 37 _ [.int v6, .int x2] rfl rfl rfl ?_)
    refine z_if_eq 44 dX8_bays_37 rfl (fun q8 => ?_) (fun q8 => ?_)
    · refine z_iconst dX8_bays_44 zi_0 (z_iadd dX8_bays_45 ?_)
      refine z_let (a := (x2 + (0 : Int32))) (fun z9 => [(0, .ref x0), (1, .int x1), (2, .int x2), (3, .int x3)]) (fun z9 => .int z9 :: []) (fun z9 => ?_)
      refine z_istore_n (lv' := [(2, .int z9), (0, .ref x0), (1, .int x1), (3, .int x3)]) dX8_bays_46 (Nat.le_of_ble_eq_true rfl) rfl (z_iinc (v := (x3 + (1 : Int32))) (lv' := [(3, .int (x3 + (1 : Int32))), (2, .int z9), (0, .ref x0), (1, .int x1)]) 3 dX8_bays_47 rfl (zi_inc _ zi_1) (Nat.le_of_ble_eq_true rfl) rfl (z_goto 24 dX8_bays_50 rfl ?_))
      refine z_sub (lv' := [(0, .ref x0), (1, .int x1), (2, .int z9), (3, .int (x3 + (1 : Int32)))]) [2, 3, 1, 0] rfl ?_
      refine z_pc (pc' := 24) rfl ?_
      exact hk (z9, (x3 + (1 : Int32)))
    · refine z_iconst dX8_bays_40 zi_1 (z_goto 45 dX8_bays_41 rfl (z_iadd dX8_bays_45 ?_))
      refine z_let (a := (x2 + (1 : Int32))) (fun z10 => [(0, .ref x0), (1, .int x1), (2, .int x2), (3, .int x3)]) (fun z10 => .int z10 :: []) (fun z10 => ?_)
      refine z_istore_n (lv' := [(2, .int z10), (0, .ref x0), (1, .int x1), (3, .int x3)]) dX8_bays_46 (Nat.le_of_ble_eq_true rfl) rfl (z_iinc (v := (x3 + (1 : Int32))) (lv' := [(3, .int (x3 + (1 : Int32))), (2, .int z10), (0, .ref x0), (1, .int x1)]) 3 dX8_bays_47 rfl (zi_inc _ zi_1) (Nat.le_of_ble_eq_true rfl) rfl (z_goto 24 dX8_bays_50 rfl ?_))
      refine z_sub (lv' := [(0, .ref x0), (1, .int x1), (2, .int z10), (3, .int (x3 + (1 : Int32)))]) [2, 3, 1, 0] rfl ?_
      refine z_pc (pc' := 24) rfl ?_
      exact hk (z10, (x3 + (1 : Int32)))

def f_X8_bays (S : Zs) (w : Zw) (a0 : Nat) (a1 : Int32) : Option (Int32 × Zw) :=
  zlet (zput w a0 0 (0 : Int32)) fun w1 => (f_X8_in a1 (0 : Int32) (5 : Int32)).bind fun v2 => if v2 = 0 then (f_X8_fails S w1 a0 (1 : Int32)).bind fun r11 => some (r11.1, r11.2) else f_X8_bays_l24 S w1 a0 a1 ((0 : Int32), (0 : Int32))
theorem mw_X8_bays {E : ZE} {S : Zs} (hW : zWF S) (w : Zw) (a0 : Nat) (h0 : zObj S a0 8) (a1 : Int32) : zOk (E, i_X8_bays, 4) 0 0 S w 0 [(0, .ref a0), (1, .int a1)] [] (emW eI S) (f_X8_bays S w a0 a1) := by
  unfold f_X8_bays
  refine z_aload_n 0 dX8_bays_0 rfl (z_iconst dX8_bays_1 zi_0 ?_)
  refine z_putI zc8 0 (by decide) (Or.inl rfl) rfl gw1107 h0 dX8_bays_2 (z_letw (fun w1 => ?_))
  refine z_iload_n 1 dX8_bays_5 rfl (z_iconst dX8_bays_6 zi_0 (z_iconst dX8_bays_7 zi_5 ?_))
  refine z_bind (fun v2 hb3 => ?_)
  refine z_callS (kc' := 0) (ks' := 0) (v := (some (.int v2))) (S1 := S) (w1 := w1) (st := []) [.int a1, .int (0 : Int32), .int (5 : Int32)] (m_X8_in hW w1 a1 (0 : Int32) (5 : Int32) v2 hb3) zy_X8_in gw1208 gw1207 (Nat.le_of_ble_eq_true rfl) (Nat.le_of_ble_eq_true rfl) (Nat.le_of_ble_eq_true rfl) (Nat.le_of_ble_eq_true rfl) (zal hW) rfl dX8_bays_8 (z_at 11 _ [.int v2] rfl rfl rfl ?_)
  refine z_if_ne 20 dX8_bays_11 rfl (fun q4 => ?_) (fun q4 => ?_)
  · refine z_iconst dX8_bays_20 zi_0 (z_istore_n (lv' := [(2, .int (0 : Int32)), (0, .ref a0), (1, .int a1)]) dX8_bays_21 (Nat.le_of_ble_eq_true rfl) rfl (z_iconst dX8_bays_22 zi_0 (z_istore_n (lv' := [(3, .int (0 : Int32)), (2, .int (0 : Int32)), (0, .ref a0), (1, .int a1)]) dX8_bays_23 (Nat.le_of_ble_eq_true rfl) rfl ?_)))
    refine z_sub (lv' := [(0, .ref a0), (1, .int a1), (2, .int (0 : Int32)), (3, .int (0 : Int32))]) [2, 3, 1, 0] rfl ?_
    refine z_pc (pc' := 24) rfl ?_
    exact m_X8_bays_l24 hW w1 a0 h0 a1 ((0 : Int32), (0 : Int32))
  · refine z_aload_n 0 dX8_bays_14 rfl (z_iconst dX8_bays_15 zi_1 ?_)
    refine z_bind (fun r11 hb12 => ?_)
    refine z_callV (kc' := 0) (ks' := 0) (v := (some (.int r11.1))) (S1 := S) (w1 := r11.2) (st := []) [.int (1 : Int32)] (m_X8_fails hW w1 a0 h0 (1 : Int32) r11 hb12) zc8 h0 zy_X8_fails gw1215 gp27 gw1213 (Nat.le_of_ble_eq_true rfl) (Nat.le_of_ble_eq_true rfl) (Nat.le_of_ble_eq_true rfl) (Nat.le_of_ble_eq_true rfl) (zal hW) rfl dX8_bays_16 (z_at 19 _ [.int r11.1] rfl rfl rfl ?_)
    exact z_iret zemW rfl dX8_bays_19

theorem m_X8_bays {E : ZE} {S : Zs} (hW : zWF S) (w : Zw) (a0 : Nat) (h0 : zObj S a0 8) (a1 : Int32) : ∀ i, f_X8_bays S w a0 a1 = some i → zMr E yX8_bays cX8_bays 4 ((some .int)) 4 0 0 [.ref a0, .int a1] S w ((emW eI S) i) :=
  fun i hi => z_enter (by decide +kernel) (Nat.le_of_ble_eq_true rfl) (mw_X8_bays hW w a0 h0 a1 i hi)
/-! ParkingRobotModel.copies ([II[II)V : W, depth 0 -/
abbrev i_X8_copies : Zm := (yX8_copies.cls, cX8_copies, 5, none, [], yX8_copies.name)
def f_X8_copies_b3 (S : Zs) (x0 : Nat) (x1 : Int32) (x2 : Nat) (x3 : Int32) (k : (Int32 × Zw) → Option (Unit × Zw)) (x4 : Int32) (w : Zw) : Option (Unit × Zw) :=
  if (399 : Int32) ≤ x4 then some ((), w) else if zin (x1 + x4) (zlen S x0) = true then if zin (x3 + x4) (zlen S x2) = true then zlet (zput w x2 (zix (x3 + x4)) (w x0 (zix (x1 + x4)))) fun w4 => k ((x4 + (1 : Int32)), w4) else none else none
def f_X8_copies_l3 (S : Zs) (x0 : Nat) (x1 : Int32) (x2 : Nat) (x3 : Int32) (a : Int32 × Zw) : Option (Unit × Zw) :=
  zlp (fun k a => f_X8_copies_b3 S x0 x1 x2 x3 k a.1 a.2) zFU a
theorem m_X8_copies_l3 {E : ZE} {S : Zs} (hW : zWF S) (x0 : Nat) (hx0 : zArr S x0 0) (x1 : Int32) (x2 : Nat) (hx2 : zArr S x2 0) (x3 : Int32) : ∀ a : Int32 × Zw, zOk (E, i_X8_copies, 0) 0 0 S a.2 3 [(0, .ref x0), (1, .int x1), (2, .ref x2), (3, .int x3), (4, .int a.1)] [] (emW eU S) (f_X8_copies_l3 S x0 x1 x2 x3 a) := by
  intro a
  refine z_lp (P := fun _ => True) (W9 := fun a : Int32 × Zw => a.2) (L9 := fun a : Int32 × Zw => [(0, .ref x0), (1, .int x1), (2, .ref x2), (3, .int x3), (4, .int a.1)]) (T9 := fun _ => []) (fun k hk9 a _ => ?_) zFU a trivial
  have hk : ∀ a : Int32 × Zw, zOk (E, i_X8_copies, 0) 0 0 S a.2 3 [(0, .ref x0), (1, .int x1), (2, .ref x2), (3, .int x3), (4, .int a.1)] [] (emW eU S) (k a) := fun a => hk9 a trivial
  clear hk9
  obtain ⟨x4, w⟩ := a
  show zOk (E, i_X8_copies, 0) 0 0 S w 3 [(0, .ref x0), (1, .int x1), (2, .ref x2), (3, .int x3), (4, .int x4)] [] (emW eU S) (f_X8_copies_b3 S x0 x1 x2 x3 k x4 w)
  unfold f_X8_copies_b3
  refine z_iload 4 dX8_copies_3 rfl (z_sipush dX8_copies_5 zs_399 ?_)
  refine z_icmp_ge 29 dX8_copies_8 rfl (fun q1 => ?_) (fun q1 => ?_)
  · exact z_vret zemW rfl dX8_copies_29
  · refine z_aload_n 2 dX8_copies_11 rfl (z_iload_n 3 dX8_copies_12 rfl (z_iload 4 dX8_copies_13 rfl (z_iadd dX8_copies_15 (z_aload_n 0 dX8_copies_16 rfl (z_iload_n 1 dX8_copies_17 rfl ?_)))))
    refine z_iload 4 dX8_copies_18 rfl (z_iadd dX8_copies_20 ?_)
    refine z_chk (fun c2 => ?_)
    refine z_iald hx0 c2 dX8_copies_21 ?_
    refine z_chk (fun c3 => ?_)
    refine z_iast hx2 c3 dX8_copies_22 (z_letw (fun w4 => ?_))
    refine z_iinc (v := (x4 + (1 : Int32))) (lv' := [(4, .int (x4 + (1 : Int32))), (0, .ref x0), (1, .int x1), (2, .ref x2), (3, .int x3)]) 4 dX8_copies_23 rfl (zi_inc _ zi_1) (Nat.le_of_ble_eq_true rfl) rfl (z_goto 3 dX8_copies_26 rfl ?_)
    refine z_sub (lv' := [(0, .ref x0), (1, .int x1), (2, .ref x2), (3, .int x3), (4, .int (x4 + (1 : Int32)))]) [1, 2, 3, 4, 0] rfl ?_
    refine z_pc (pc' := 3) rfl ?_
    exact hk ((x4 + (1 : Int32)), w4)

def f_X8_copies (S : Zs) (w : Zw) (a0 : Nat) (a1 : Int32) (a2 : Nat) (a3 : Int32) : Option (Unit × Zw) :=
  f_X8_copies_l3 S a0 a1 a2 a3 ((0 : Int32), w)
theorem mw_X8_copies {E : ZE} {S : Zs} (hW : zWF S) (w : Zw) (a0 : Nat) (h0 : zArr S a0 0) (a1 : Int32) (a2 : Nat) (h2 : zArr S a2 0) (a3 : Int32) : zOk (E, i_X8_copies, 0) 0 0 S w 0 [(0, .ref a0), (1, .int a1), (2, .ref a2), (3, .int a3)] [] (emW eU S) (f_X8_copies S w a0 a1 a2 a3) := by
  unfold f_X8_copies
  refine z_iconst dX8_copies_0 zi_0 (z_istore (lv' := [(4, .int (0 : Int32)), (0, .ref a0), (1, .int a1), (2, .ref a2), (3, .int a3)]) dX8_copies_1 (Nat.le_of_ble_eq_true rfl) rfl ?_)
  refine z_sub (lv' := [(0, .ref a0), (1, .int a1), (2, .ref a2), (3, .int a3), (4, .int (0 : Int32))]) [1, 2, 3, 4, 0] rfl ?_
  refine z_pc (pc' := 3) rfl ?_
  exact m_X8_copies_l3 hW a0 h0 a1 a2 h2 a3 ((0 : Int32), w)

theorem m_X8_copies {E : ZE} {S : Zs} (hW : zWF S) (w : Zw) (a0 : Nat) (h0 : zArr S a0 0) (a1 : Int32) (a2 : Nat) (h2 : zArr S a2 0) (a3 : Int32) : ∀ i, f_X8_copies S w a0 a1 a2 a3 = some i → zMr E yX8_copies cX8_copies 5 none 0 0 0 [.ref a0, .int a1, .ref a2, .int a3] S w ((emW eU S) i) :=
  fun i hi => z_enter (by decide +kernel) (Nat.le_of_ble_eq_true rfl) (mw_X8_copies hW w a0 h0 a1 a2 h2 a3 i hi)
/-! ParkingRobotModel.begins ()V : W, depth 1 -/
abbrev i_X8_begins : Zm := (yX8_begins.cls, cX8_begins, 1, none, [], yX8_begins.name)
def f_X8_begins (S : Zs) (w : Zw) (a0 : Nat) : Option (Unit × Zw) :=
  zlet (zput w a0 0 (0 : Int32)) fun w1 => (f_X8_copies S w1 (zr S a0 1) (0 : Int32) (zr S a0 2) (0 : Int32)).bind fun r2 => some ((), r2.2)
theorem mw_X8_begins {E : ZE} {S : Zs} (hW : zWF S) (w : Zw) (a0 : Nat) (h0 : zObj S a0 8) : zOk (E, i_X8_begins, 1) 0 0 S w 0 [(0, .ref a0)] [] (emW eU S) (f_X8_begins S w a0) := by
  unfold f_X8_begins
  refine z_aload_n 0 dX8_begins_0 rfl (z_iconst dX8_begins_1 zi_0 ?_)
  refine z_putI zc8 0 (by decide) (Or.inl rfl) rfl gw1107 h0 dX8_begins_2 (z_letw (fun w1 => ?_))
  refine z_aload_n 0 dX8_begins_5 rfl (z_getR zc8 1 (by decide) rfl gw1108 h0 (zW_some hW h0 1 rfl) dX8_begins_6 (z_iconst dX8_begins_9 zi_0 (z_aload_n 0 dX8_begins_10 rfl (z_getR zc8 2 (by decide) rfl gw1109 h0 (zW_some hW h0 2 rfl) dX8_begins_11 (z_iconst dX8_begins_14 zi_0 ?_)))))
  refine z_bind (fun r2 hb3 => ?_)
  refine z_callS (kc' := 0) (ks' := 0) (v := none) (S1 := S) (w1 := r2.2) (st := []) [.ref (zr S a0 1), .int (0 : Int32), .ref (zr S a0 2), .int (0 : Int32)] (m_X8_copies hW w1 (zr S a0 1) (zW_arr hW h0 1 0 rfl) (0 : Int32) (zr S a0 2) (zW_arr hW h0 2 0 rfl) (0 : Int32) r2 hb3) zy_X8_copies gw1198 gw1197 (Nat.le_of_ble_eq_true rfl) (Nat.le_of_ble_eq_true rfl) (Nat.le_of_ble_eq_true rfl) (Nat.le_of_ble_eq_true rfl) (zal hW) rfl dX8_begins_15 (z_at 18 _ [] rfl rfl rfl ?_)
  exact z_vret zemW rfl dX8_begins_18

theorem m_X8_begins {E : ZE} {S : Zs} (hW : zWF S) (w : Zw) (a0 : Nat) (h0 : zObj S a0 8) : ∀ i, f_X8_begins S w a0 = some i → zMr E yX8_begins cX8_begins 1 none 1 0 0 [.ref a0] S w ((emW eU S) i) :=
  fun i hi => z_enter (by decide +kernel) (Nat.le_of_ble_eq_true rfl) (mw_X8_begins hW w a0 h0 i hi)
/-! ParkingRobotModel.isCar (I)Z : P, depth 2 -/
abbrev i_X8_isCar : Zm := (yX8_isCar.cls, cX8_isCar, 2, (some .boolean), [], yX8_isCar.name)
def f_X8_isCar (S : Zs) (w : Zw) (a0 : Nat) (a1 : Int32) : Option (Int32) :=
  if zin (1 : Int32) (zlen S (zr S a0 1)) = true then (f_X8_in a1 (0 : Int32) ((w (zr S a0 1) (zix (1 : Int32))) - (1 : Int32))).bind fun v2 => if v2 = 0 then some (0 : Int32) else (f_X8_bayOf S w a0 a1).bind fun v5 => if v5 < 0 then some (0 : Int32) else some (1 : Int32) else none
theorem mw_X8_isCar {E : ZE} {S : Zs} (hW : zWF S) (w : Zw) (a0 : Nat) (h0 : zObj S a0 8) (a1 : Int32) : zOk (E, i_X8_isCar, 2) 0 0 S w 0 [(0, .ref a0), (1, .int a1)] [] (emP eI S w) (f_X8_isCar S w a0 a1) := by
  unfold f_X8_isCar
  refine z_iload_n 1 dX8_isCar_0 rfl (z_iconst dX8_isCar_1 zi_0 (z_aload_n 0 dX8_isCar_2 rfl (z_getR zc8 1 (by decide) rfl gw1108 h0 (zW_some hW h0 1 rfl) dX8_isCar_3 (z_iconst dX8_isCar_6 zi_1 ?_))))
  refine z_chk (fun c1 => ?_)
  refine z_iald (zW_arr hW h0 1 0 rfl) c1 dX8_isCar_7 (z_iconst dX8_isCar_8 zi_1 (z_isub dX8_isCar_9 ?_))
  refine z_bind (fun v2 hb3 => ?_)
  refine z_callS (kc' := 0) (ks' := 0) (v := (some (.int v2))) (S1 := S) (w1 := w) (st := []) [.int a1, .int (0 : Int32), .int ((w (zr S a0 1) (zix (1 : Int32))) - (1 : Int32))] (m_X8_in hW w a1 (0 : Int32) ((w (zr S a0 1) (zix (1 : Int32))) - (1 : Int32)) v2 hb3) zy_X8_in gw1208 gw1207 (Nat.le_of_ble_eq_true rfl) (Nat.le_of_ble_eq_true rfl) (Nat.le_of_ble_eq_true rfl) (Nat.le_of_ble_eq_true rfl) (zal hW) rfl dX8_isCar_10 (z_at 13 _ [.int v2] rfl rfl rfl ?_)
  refine z_if_eq 28 dX8_isCar_13 rfl (fun q4 => ?_) (fun q4 => ?_)
  · refine z_iconst dX8_isCar_28 zi_0 ?_
    exact z_zret zemP rfl rfl dX8_isCar_29
  · refine z_aload_n 0 dX8_isCar_16 rfl (z_iload_n 1 dX8_isCar_17 rfl ?_)
    refine z_bind (fun v5 hb6 => ?_)
    refine z_callV (kc' := 0) (ks' := 0) (v := (some (.int v5))) (S1 := S) (w1 := w) (st := []) [.int a1] (m_X8_bayOf hW w a0 h0 a1 v5 hb6) zc8 h0 zy_X8_bayOf gw1305 gp43 gw1303 (Nat.le_of_ble_eq_true rfl) (Nat.le_of_ble_eq_true rfl) (Nat.le_of_ble_eq_true rfl) (Nat.le_of_ble_eq_true rfl) (zal hW) rfl dX8_isCar_18 (z_at 21 _ [.int v5] rfl rfl rfl ?_)
    refine z_if_lt 28 dX8_isCar_21 rfl (fun q7 => ?_) (fun q7 => ?_)
    · refine z_iconst dX8_isCar_28 zi_0 ?_
      exact z_zret zemP rfl rfl dX8_isCar_29
    · refine z_iconst dX8_isCar_24 zi_1 (z_goto 29 dX8_isCar_25 rfl ?_)
      exact z_zret zemP rfl rfl dX8_isCar_29

theorem m_X8_isCar {E : ZE} {S : Zs} (hW : zWF S) (w : Zw) (a0 : Nat) (h0 : zObj S a0 8) (a1 : Int32) : ∀ i, f_X8_isCar S w a0 a1 = some i → zMr E yX8_isCar cX8_isCar 2 ((some .boolean)) 2 0 0 [.ref a0, .int a1] S w ((emP eI S w) i) :=
  fun i hi => z_enter (by decide +kernel) (Nat.le_of_ble_eq_true rfl) (mw_X8_isCar hW w a0 h0 a1 i hi)
/-! ParkingRobotModel.isSet (J)Z : W, depth 3 -/
abbrev i_X8_isSet : Zm := (yX8_isSet.cls, cX8_isSet, 5, (some .boolean), [], yX8_isSet.name)
def f_X8_isSet_b112 (S : Zs) (x0 : Nat) (x1 : Int64) (k : (Int32 × Zw) → Option (Int32 × Zw)) (x4 : Int32) (w : Zw) : Option (Int32 × Zw) :=
  if (40 : Int32) ≤ x4 then some ((1 : Int32), w) else if (lg_cmp ((zlushr x1 x4) &&& (1 : Int64)) (0 : Int64)) = 0 then k ((x4 + (1 : Int32)), w) else if zin (w x0 16) (zlen S (zr S x0 13)) = true then zlet (zput w (zr S x0 13) (zix (w x0 16)) x4) fun w11 => zlet (zput w11 x0 16 ((w11 x0 16) + (1 : Int32))) fun w12 => k ((x4 + (1 : Int32)), w12) else none
def f_X8_isSet_l112 (S : Zs) (x0 : Nat) (x1 : Int64) (a : Int32 × Zw) : Option (Int32 × Zw) :=
  zlp (fun k a => f_X8_isSet_b112 S x0 x1 k a.1 a.2) zFU a
theorem m_X8_isSet_l112 {E : ZE} {S : Zs} (hW : zWF S) (x0 : Nat) (hx0 : zObj S x0 8) (x1 : Int64) : ∀ a : Int32 × Zw, zOk (E, i_X8_isSet, 3) 0 0 S a.2 112 [(0, .ref x0), (1, .long x1), (4, .int a.1)] [] (emW eI S) (f_X8_isSet_l112 S x0 x1 a) := by
  intro a
  refine z_lp (P := fun _ => True) (W9 := fun a : Int32 × Zw => a.2) (L9 := fun a : Int32 × Zw => [(0, .ref x0), (1, .long x1), (4, .int a.1)]) (T9 := fun _ => []) (fun k hk9 a _ => ?_) zFU a trivial
  have hk : ∀ a : Int32 × Zw, zOk (E, i_X8_isSet, 3) 0 0 S a.2 112 [(0, .ref x0), (1, .long x1), (4, .int a.1)] [] (emW eI S) (k a) := fun a => hk9 a trivial
  clear hk9
  obtain ⟨x4, w⟩ := a
  show zOk (E, i_X8_isSet, 3) 0 0 S w 112 [(0, .ref x0), (1, .long x1), (4, .int x4)] [] (emW eI S) (f_X8_isSet_b112 S x0 x1 k x4 w)
  unfold f_X8_isSet_b112
  refine z_iload 2 dX8_isSet_112 rfl (z_bipush dX8_isSet_114 zb_40 ?_)
  refine z_icmp_ge 160 dX8_isSet_116 rfl (fun q8 => ?_) (fun q8 => ?_)
  · refine z_iconst dX8_isSet_160 zi_1 ?_
    exact z_zret zemW rfl rfl dX8_isSet_161
  · refine z_lload_n 1 dX8_isSet_119 rfl (z_iload 2 dX8_isSet_120 rfl (z_lushr (v := (zlushr x1 x4)) dX8_isSet_122 rfl (z_lconst dX8_isSet_123 zl_1 (z_land dX8_isSet_124 (z_lconst dX8_isSet_125 zl_0 ?_)))))
    refine z_lcmp dX8_isSet_126 ?_
    refine z_if_ne 133 dX8_isSet_127 rfl (fun q9 => ?_) (fun q9 => ?_)
    · refine z_aload_n 0 dX8_isSet_133 rfl (z_getR zc8 13 (by decide) rfl gw1120 hx0 (zW_some hW hx0 13 rfl) dX8_isSet_134 (z_aload_n 0 dX8_isSet_137 rfl (z_getI zc8 16 (by decide) rfl gw1123 hx0 dX8_isSet_138 (z_iload 2 dX8_isSet_141 rfl ?_))))
      refine z_chk (fun c10 => ?_)
      refine z_iast (zW_arr hW hx0 13 0 rfl) c10 dX8_isSet_143 (z_letw (fun w11 => ?_))
      refine z_aload_n 0 dX8_isSet_144 rfl (z_dup dX8_isSet_145 rfl (z_getI zc8 16 (by decide) rfl gw1123 hx0 dX8_isSet_146 (z_iconst dX8_isSet_149 zi_1 (z_iadd dX8_isSet_150 ?_))))
      refine z_putI zc8 16 (by decide) (Or.inl rfl) rfl gw1123 hx0 dX8_isSet_151 (z_letw (fun w12 => ?_))
      refine z_iinc (v := (x4 + (1 : Int32))) (lv' := [(4, .int (x4 + (1 : Int32))), (0, .ref x0), (1, .long x1)]) 2 dX8_isSet_154 rfl (zi_inc _ zi_1) (Nat.le_of_ble_eq_true rfl) rfl (z_goto 112 dX8_isSet_157 rfl ?_)
      refine z_sub (lv' := [(0, .ref x0), (1, .long x1), (4, .int (x4 + (1 : Int32)))]) [1, 2, 0] rfl ?_
      refine z_pc (pc' := 112) rfl ?_
      exact hk ((x4 + (1 : Int32)), w12)
    · refine z_goto 154 dX8_isSet_130 rfl (z_iinc (v := (x4 + (1 : Int32))) (lv' := [(4, .int (x4 + (1 : Int32))), (0, .ref x0), (1, .long x1)]) 2 dX8_isSet_154 rfl (zi_inc _ zi_1) (Nat.le_of_ble_eq_true rfl) rfl (z_goto 112 dX8_isSet_157 rfl ?_))
      refine z_sub (lv' := [(0, .ref x0), (1, .long x1), (4, .int (x4 + (1 : Int32)))]) [1, 2, 0] rfl ?_
      refine z_pc (pc' := 112) rfl ?_
      exact hk ((x4 + (1 : Int32)), w)

def f_X8_isSet_j95 (S : Zs) (w : Zw) (x0 : Nat) (x1 : Int64) : Option (Int32 × Zw) :=
  if (w x0 0) = 0 then (zlet (zput w x0 16 (0 : Int32)) fun w7 => f_X8_isSet_l112 S x0 x1 ((0 : Int32), w7)) else some ((0 : Int32), w)
theorem m_X8_isSet_j95 {E : ZE} {S : Zs} (hW : zWF S) (w : Zw) (x0 : Nat) (hx0 : zObj S x0 8) (x1 : Int64) : zOk (E, i_X8_isSet, 3) 0 0 S w 95 [(0, .ref x0), (1, .long x1)] [] (emW eI S) (f_X8_isSet_j95 S w x0 x1) := by
  unfold f_X8_isSet_j95
  refine z_aload_n 0 dX8_isSet_95 rfl (z_getI zc8 0 (by decide) rfl gw1107 hx0 dX8_isSet_96 ?_)
  refine z_if_eq 104 dX8_isSet_99 rfl (fun q6 => ?_) (fun q6 => ?_)
  · refine z_aload_n 0 dX8_isSet_104 rfl (z_iconst dX8_isSet_105 zi_0 ?_)
    refine z_putI zc8 16 (by decide) (Or.inl rfl) rfl gw1123 hx0 dX8_isSet_106 (z_letw (fun w7 => ?_))
    refine z_iconst dX8_isSet_109 zi_0 (z_istore (lv' := [(4, .int (0 : Int32)), (0, .ref x0), (1, .long x1)]) dX8_isSet_110 (Nat.le_of_ble_eq_true rfl) rfl ?_)
    refine z_sub (lv' := [(0, .ref x0), (1, .long x1), (4, .int (0 : Int32))]) [1, 2, 0] rfl ?_
    refine z_pc (pc' := 112) rfl ?_
    exact m_X8_isSet_l112 hW x0 hx0 x1 ((0 : Int32), w7)
  · refine z_iconst dX8_isSet_102 zi_0 ?_
    exact z_zret zemW rfl rfl dX8_isSet_103

def f_X8_isSet_b29 (S : Zs) (w : Zw) (x0 : Nat) (x1 : Int64) (k : (Int32 × Int32) → Option (Int32 × Zw)) (x3 : Int32) (x4 : Int32) : Option (Int32 × Zw) :=
  if (40 : Int32) ≤ x4 then (if x3 = 0 then (zlet (zput w x0 0 (1 : Int32)) fun w14 => f_X8_isSet_j95 S w14 x0 x1 ) else if (f_J13_bitCount_95d88 x1) ≤ (5 : Int32) then f_X8_isSet_j95 S w x0 x1  else (zlet (zput w x0 0 (2 : Int32)) fun w13 => f_X8_isSet_j95 S w13 x0 x1 )) else if (lg_cmp ((zlushr x1 x4) &&& (1 : Int64)) (0 : Int64)) = 0 then (zlet (x3 &&& (1 : Int32)) fun z16 => k (z16, (x4 + (1 : Int32)))) else (f_X8_isCar S w x0 x4).bind fun v17 => if v17 = 0 then (zlet (x3 &&& (0 : Int32)) fun z20 => k (z20, (x4 + (1 : Int32)))) else (zlet (x3 &&& (1 : Int32)) fun z21 => k (z21, (x4 + (1 : Int32))))
def f_X8_isSet_l29 (S : Zs) (w : Zw) (x0 : Nat) (x1 : Int64) (a : Int32 × Int32) : Option (Int32 × Zw) :=
  zlp (fun k a => f_X8_isSet_b29 S w x0 x1 k a.1 a.2) zFU a
theorem m_X8_isSet_l29 {E : ZE} {S : Zs} (hW : zWF S) (w : Zw) (x0 : Nat) (hx0 : zObj S x0 8) (x1 : Int64) : ∀ a : Int32 × Int32, zOk (E, i_X8_isSet, 3) 0 0 S w 29 [(0, .ref x0), (1, .long x1), (3, .int a.1), (4, .int a.2)] [] (emW eI S) (f_X8_isSet_l29 S w x0 x1 a) := by
  intro a
  refine z_lp (P := fun _ => True) (W9 := fun a : Int32 × Int32 => w) (L9 := fun a : Int32 × Int32 => [(0, .ref x0), (1, .long x1), (3, .int a.1), (4, .int a.2)]) (T9 := fun _ => []) (fun k hk9 a _ => ?_) zFU a trivial
  have hk : ∀ a : Int32 × Int32, zOk (E, i_X8_isSet, 3) 0 0 S w 29 [(0, .ref x0), (1, .long x1), (3, .int a.1), (4, .int a.2)] [] (emW eI S) (k a) := fun a => hk9 a trivial
  clear hk9
  obtain ⟨x3, x4⟩ := a
  show zOk (E, i_X8_isSet, 3) 0 0 S w 29 [(0, .ref x0), (1, .long x1), (3, .int x3), (4, .int x4)] [] (emW eI S) (f_X8_isSet_b29 S w x0 x1 k x3 x4)
  unfold f_X8_isSet_b29
  refine z_iload 3 dX8_isSet_29 rfl (z_bipush dX8_isSet_31 zb_40 ?_)
  refine z_icmp_ge 70 dX8_isSet_33 rfl (fun q3 => ?_) (fun q3 => ?_)
  · refine z_iload_n 2 dX8_isSet_70 rfl ?_
    refine z_if_ne 82 dX8_isSet_71 rfl (fun q4 => ?_) (fun q4 => ?_)
    · refine z_lload_n 1 dX8_isSet_82 rfl ?_
      refine z_callS (kc' := 0) (ks' := 0) (v := (some (.int (f_J13_bitCount_95d88 x1)))) (S1 := S) (w1 := w) (st := []) [.long x1] (m_J13_bitCount_95d88 hW w x1) zy_J13_bitCount_95d88 gw751 gw1385 (Nat.le_of_ble_eq_true rfl) (Nat.le_of_ble_eq_true rfl) (Nat.le_of_ble_eq_true rfl) (Nat.le_of_ble_eq_true rfl) (zal hW) rfl dX8_isSet_83 (z_at 86 _ [.int (f_J13_bitCount_95d88 x1)] rfl rfl rfl ?_)
      refine z_iconst dX8_isSet_86 zi_5 ?_
      refine z_icmp_le 95 dX8_isSet_87 rfl (fun q5 => ?_) (fun q5 => ?_)
      · refine z_sub (lv' := [(0, .ref x0), (1, .long x1)]) [0, 1] rfl ?_
        refine z_pc (pc' := 95) rfl ?_
        exact m_X8_isSet_j95 hW w x0 hx0 x1 
      · refine z_aload_n 0 dX8_isSet_90 rfl (z_iconst dX8_isSet_91 zi_2 ?_)
        refine z_putI zc8 0 (by decide) (Or.inl rfl) rfl gw1107 hx0 dX8_isSet_92 (z_letw (fun w13 => ?_))
        refine z_sub (lv' := [(0, .ref x0), (1, .long x1)]) [0, 1] rfl ?_
        refine z_pc (pc' := 95) rfl ?_
        exact m_X8_isSet_j95 hW w13 x0 hx0 x1 
    · refine z_aload_n 0 dX8_isSet_74 rfl (z_iconst dX8_isSet_75 zi_1 ?_)
      refine z_putI zc8 0 (by decide) (Or.inl rfl) rfl gw1107 hx0 dX8_isSet_76 (z_letw (fun w14 => ?_))
      refine z_goto 95 dX8_isSet_79 rfl ?_
      refine z_sub (lv' := [(0, .ref x0), (1, .long x1)]) [0, 1] rfl ?_
      refine z_pc (pc' := 95) rfl ?_
      exact m_X8_isSet_j95 hW w14 x0 hx0 x1 
  · refine z_iload_n 2 dX8_isSet_36 rfl (z_lload_n 1 dX8_isSet_37 rfl (z_iload 3 dX8_isSet_38 rfl (z_lushr (v := (zlushr x1 x4)) dX8_isSet_40 rfl (z_lconst dX8_isSet_41 zl_1 (z_land dX8_isSet_42 ?_)))))
    refine z_lconst dX8_isSet_43 zl_0 (z_lcmp dX8_isSet_44 ?_)
    refine z_if_eq 57 dX8_isSet_45 rfl (fun q15 => ?_) (fun q15 => ?_)
    · refine z_iconst dX8_isSet_57 zi_1 (z_goto 62 dX8_isSet_58 rfl (z_iand dX8_isSet_62 ?_))
      refine z_let (a := (x3 &&& (1 : Int32))) (fun z16 => [(0, .ref x0), (1, .long x1), (3, .int x3), (4, .int x4)]) (fun z16 => .int z16 :: []) (fun z16 => ?_)
      refine z_istore_n (lv' := [(3, .int z16), (0, .ref x0), (1, .long x1), (4, .int x4)]) dX8_isSet_63 (Nat.le_of_ble_eq_true rfl) rfl (z_iinc (v := (x4 + (1 : Int32))) (lv' := [(4, .int (x4 + (1 : Int32))), (3, .int z16), (0, .ref x0), (1, .long x1)]) 3 dX8_isSet_64 rfl (zi_inc _ zi_1) (Nat.le_of_ble_eq_true rfl) rfl (z_goto 29 dX8_isSet_67 rfl ?_))
      refine z_sub (lv' := [(0, .ref x0), (1, .long x1), (3, .int z16), (4, .int (x4 + (1 : Int32)))]) [2, 3, 1, 0] rfl ?_
      refine z_pc (pc' := 29) rfl ?_
      exact hk (z16, (x4 + (1 : Int32)))
    · refine z_aload_n 0 dX8_isSet_48 rfl (z_iload 3 dX8_isSet_49 rfl ?_)
      refine z_bind (fun v17 hb18 => ?_)
      refine z_callV (kc' := 0) (ks' := 0) (v := (some (.int v17))) (S1 := S) (w1 := w) (st := [.int x3]) [.int x4] (m_X8_isCar hW w x0 hx0 x4 v17 hb18) zc8 hx0 zy_X8_isCar gw1301 gp42 gw1299 (Nat.le_of_ble_eq_true rfl) (Nat.le_of_ble_eq_true rfl) (Nat.le_of_ble_eq_true rfl) (Nat.le_of_ble_eq_true rfl) (zal hW) rfl dX8_isSet_51 (z_at 54 _ [.int v17, .int x3] rfl rfl rfl ?_)
      refine z_if_eq 61 dX8_isSet_54 rfl (fun q19 => ?_) (fun q19 => ?_)
      · refine z_iconst dX8_isSet_61 zi_0 (z_iand dX8_isSet_62 ?_)
        refine z_let (a := (x3 &&& (0 : Int32))) (fun z20 => [(0, .ref x0), (1, .long x1), (3, .int x3), (4, .int x4)]) (fun z20 => .int z20 :: []) (fun z20 => ?_)
        refine z_istore_n (lv' := [(3, .int z20), (0, .ref x0), (1, .long x1), (4, .int x4)]) dX8_isSet_63 (Nat.le_of_ble_eq_true rfl) rfl (z_iinc (v := (x4 + (1 : Int32))) (lv' := [(4, .int (x4 + (1 : Int32))), (3, .int z20), (0, .ref x0), (1, .long x1)]) 3 dX8_isSet_64 rfl (zi_inc _ zi_1) (Nat.le_of_ble_eq_true rfl) rfl (z_goto 29 dX8_isSet_67 rfl ?_))
        refine z_sub (lv' := [(0, .ref x0), (1, .long x1), (3, .int z20), (4, .int (x4 + (1 : Int32)))]) [2, 3, 1, 0] rfl ?_
        refine z_pc (pc' := 29) rfl ?_
        exact hk (z20, (x4 + (1 : Int32)))
      · refine z_iconst dX8_isSet_57 zi_1 (z_goto 62 dX8_isSet_58 rfl (z_iand dX8_isSet_62 ?_))
        refine z_let (a := (x3 &&& (1 : Int32))) (fun z21 => [(0, .ref x0), (1, .long x1), (3, .int x3), (4, .int x4)]) (fun z21 => .int z21 :: []) (fun z21 => ?_)
        refine z_istore_n (lv' := [(3, .int z21), (0, .ref x0), (1, .long x1), (4, .int x4)]) dX8_isSet_63 (Nat.le_of_ble_eq_true rfl) rfl (z_iinc (v := (x4 + (1 : Int32))) (lv' := [(4, .int (x4 + (1 : Int32))), (3, .int z21), (0, .ref x0), (1, .long x1)]) 3 dX8_isSet_64 rfl (zi_inc _ zi_1) (Nat.le_of_ble_eq_true rfl) rfl (z_goto 29 dX8_isSet_67 rfl ?_))
        refine z_sub (lv' := [(0, .ref x0), (1, .long x1), (3, .int z21), (4, .int (x4 + (1 : Int32)))]) [2, 3, 1, 0] rfl ?_
        refine z_pc (pc' := 29) rfl ?_
        exact hk (z21, (x4 + (1 : Int32)))

def f_X8_isSet_j25 (S : Zs) (w : Zw) (x0 : Nat) (x1 : Int64) (y0 : Int32) : Option (Int32 × Zw) :=
  f_X8_isSet_l29 S w x0 x1 (y0, (0 : Int32))
theorem m_X8_isSet_j25 {E : ZE} {S : Zs} (hW : zWF S) (w : Zw) (x0 : Nat) (hx0 : zObj S x0 8) (x1 : Int64) (y0 : Int32) : zOk (E, i_X8_isSet, 3) 0 0 S w 25 [(0, .ref x0), (1, .long x1)] [.int y0] (emW eI S) (f_X8_isSet_j25 S w x0 x1 y0) := by
  unfold f_X8_isSet_j25
  refine z_istore_n (lv' := [(3, .int y0), (0, .ref x0), (1, .long x1)]) dX8_isSet_25 (Nat.le_of_ble_eq_true rfl) rfl (z_iconst dX8_isSet_26 zi_0 (z_istore (lv' := [(4, .int (0 : Int32)), (3, .int y0), (0, .ref x0), (1, .long x1)]) dX8_isSet_27 (Nat.le_of_ble_eq_true rfl) rfl ?_))
  refine z_sub (lv' := [(0, .ref x0), (1, .long x1), (3, .int y0), (4, .int (0 : Int32))]) [2, 3, 1, 0] rfl ?_
  refine z_pc (pc' := 29) rfl ?_
  exact m_X8_isSet_l29 hW w x0 hx0 x1 (y0, (0 : Int32))

def f_X8_isSet_j24 (S : Zs) (w : Zw) (x0 : Nat) (x1 : Int64) : Option (Int32 × Zw) :=
  f_X8_isSet_j25 S w x0 x1 (0 : Int32) 
theorem m_X8_isSet_j24 {E : ZE} {S : Zs} (hW : zWF S) (w : Zw) (x0 : Nat) (hx0 : zObj S x0 8) (x1 : Int64) : zOk (E, i_X8_isSet, 3) 0 0 S w 24 [(0, .ref x0), (1, .long x1)] [] (emW eI S) (f_X8_isSet_j24 S w x0 x1) := by
  unfold f_X8_isSet_j24
  refine z_iconst dX8_isSet_24 zi_0 ?_
  refine z_pc (pc' := 25) rfl ?_
  exact m_X8_isSet_j25 hW w x0 hx0 x1 (0 : Int32) 

def f_X8_isSet (S : Zs) (w : Zw) (a0 : Nat) (a1 : Int64) : Option (Int32 × Zw) :=
  zlet (zput w a0 0 (0 : Int32)) fun w1 => if (lg_cmp a1 (0 : Int64)) = 0 then f_X8_isSet_j24 S w1 a0 a1  else if (lg_cmp (zlushr a1 (40 : Int32)) (0 : Int64)) = 0 then f_X8_isSet_j25 S w1 a0 a1 (1 : Int32)  else f_X8_isSet_j24 S w1 a0 a1 
theorem mw_X8_isSet {E : ZE} {S : Zs} (hW : zWF S) (w : Zw) (a0 : Nat) (h0 : zObj S a0 8) (a1 : Int64) : zOk (E, i_X8_isSet, 3) 0 0 S w 0 [(0, .ref a0), (1, .long a1)] [] (emW eI S) (f_X8_isSet S w a0 a1) := by
  unfold f_X8_isSet
  refine z_aload_n 0 dX8_isSet_0 rfl (z_iconst dX8_isSet_1 zi_0 ?_)
  refine z_putI zc8 0 (by decide) (Or.inl rfl) rfl gw1107 h0 dX8_isSet_2 (z_letw (fun w1 => ?_))
  refine z_lload_n 1 dX8_isSet_5 rfl (z_lconst dX8_isSet_6 zl_0 (z_lcmp dX8_isSet_7 ?_))
  refine z_if_eq 24 dX8_isSet_8 rfl (fun q2 => ?_) (fun q2 => ?_)
  · refine z_pc (pc' := 24) rfl ?_
    exact m_X8_isSet_j24 hW w1 a0 h0 a1 
  · refine z_lload_n 1 dX8_isSet_11 rfl (z_bipush dX8_isSet_12 zb_40 (z_lushr (v := (zlushr a1 (40 : Int32))) dX8_isSet_14 rfl (z_lconst dX8_isSet_15 zl_0 (z_lcmp dX8_isSet_16 ?_))))
    refine z_if_ne 24 dX8_isSet_17 rfl (fun q22 => ?_) (fun q22 => ?_)
    · refine z_pc (pc' := 24) rfl ?_
      exact m_X8_isSet_j24 hW w1 a0 h0 a1 
    · refine z_iconst dX8_isSet_20 zi_1 (z_goto 25 dX8_isSet_21 rfl ?_)
      refine z_pc (pc' := 25) rfl ?_
      exact m_X8_isSet_j25 hW w1 a0 h0 a1 (1 : Int32) 

theorem m_X8_isSet {E : ZE} {S : Zs} (hW : zWF S) (w : Zw) (a0 : Nat) (h0 : zObj S a0 8) (a1 : Int64) : ∀ i, f_X8_isSet S w a0 a1 = some i → zMr E yX8_isSet cX8_isSet 5 ((some .boolean)) 3 0 0 [.ref a0, .long a1] S w ((emW eI S) i) :=
  fun i hi => z_enter (by decide +kernel) (Nat.le_of_ble_eq_true rfl) (mw_X8_isSet hW w a0 h0 a1 i hi)
/-! ParkingRobotModel.effort (II)I : P, depth 6 -/
abbrev i_X8_effort : Zm := (yX8_effort.cls, cX8_effort, 2, (some .int), [], yX8_effort.name)
def f_X8_effort (a0 : Int32) (a1 : Int32) : Option (Int32) :=
  if 0 ≤ a0 then (if (f_X8_level a0) = (f_X8_level a1) then some ((zabs ((f_X8_column a0) - (f_X8_column a1))) + (f_X8_depth a1)) else some (((((20 : Int32) + ((3 : Int32) * (zabs ((f_X8_level a0) - (f_X8_level a1))))) + (f_X8_column a0)) + (f_X8_column a1)) + (f_X8_depth a1))) else some ((((3 : Int32) * (f_X8_level a1)) + (f_X8_column a1)) + (f_X8_depth a1))
theorem mw_X8_effort {E : ZE} {S : Zs} (hW : zWF S) (w : Zw) (a0 : Int32) (a1 : Int32) : zOk (E, i_X8_effort, 6) 0 0 S w 0 [(0, .int a0), (1, .int a1)] [] (emP eI S w) (f_X8_effort a0 a1) := by
  unfold f_X8_effort
  refine z_iload_n 0 dX8_effort_0 rfl ?_
  refine z_if_ge 21 dX8_effort_1 rfl (fun q1 => ?_) (fun q1 => ?_)
  · refine z_iload_n 0 dX8_effort_21 rfl ?_
    refine z_callS (kc' := 0) (ks' := 0) (v := (some (.int (f_X8_level a0)))) (S1 := S) (w1 := w) (st := []) [.int a0] (m_X8_level hW w a0) zy_X8_level gw1242 gw1241 (Nat.le_of_ble_eq_true rfl) (Nat.le_of_ble_eq_true rfl) (Nat.le_of_ble_eq_true rfl) (Nat.le_of_ble_eq_true rfl) (zal hW) rfl dX8_effort_22 (z_at 25 _ [.int (f_X8_level a0)] rfl rfl rfl ?_)
    refine z_iload_n 1 dX8_effort_25 rfl ?_
    refine z_callS (kc' := 0) (ks' := 0) (v := (some (.int (f_X8_level a1)))) (S1 := S) (w1 := w) (st := [.int (f_X8_level a0)]) [.int a1] (m_X8_level hW w a1) zy_X8_level gw1242 gw1241 (Nat.le_of_ble_eq_true rfl) (Nat.le_of_ble_eq_true rfl) (Nat.le_of_ble_eq_true rfl) (Nat.le_of_ble_eq_true rfl) (zal hW) rfl dX8_effort_26 (z_at 29 _ [.int (f_X8_level a1), .int (f_X8_level a0)] rfl rfl rfl ?_)
    refine z_icmp_ne 50 dX8_effort_29 rfl (fun q2 => ?_) (fun q2 => ?_)
    · refine z_bipush dX8_effort_50 zb_20 (z_iconst dX8_effort_52 zi_3 (z_iload_n 0 dX8_effort_53 rfl ?_))
      refine z_callS (kc' := 0) (ks' := 0) (v := (some (.int (f_X8_level a0)))) (S1 := S) (w1 := w) (st := [.int (3 : Int32), .int (20 : Int32)]) [.int a0] (m_X8_level hW w a0) zy_X8_level gw1242 gw1241 (Nat.le_of_ble_eq_true rfl) (Nat.le_of_ble_eq_true rfl) (Nat.le_of_ble_eq_true rfl) (Nat.le_of_ble_eq_true rfl) (zal hW) rfl dX8_effort_54 (z_at 57 _ [.int (f_X8_level a0), .int (3 : Int32), .int (20 : Int32)] rfl rfl rfl ?_)
      refine z_iload_n 1 dX8_effort_57 rfl ?_
      refine z_callS (kc' := 0) (ks' := 0) (v := (some (.int (f_X8_level a1)))) (S1 := S) (w1 := w) (st := [.int (f_X8_level a0), .int (3 : Int32), .int (20 : Int32)]) [.int a1] (m_X8_level hW w a1) zy_X8_level gw1242 gw1241 (Nat.le_of_ble_eq_true rfl) (Nat.le_of_ble_eq_true rfl) (Nat.le_of_ble_eq_true rfl) (Nat.le_of_ble_eq_true rfl) (zal hW) rfl dX8_effort_58 (z_at 61 _ [.int (f_X8_level a1), .int (f_X8_level a0), .int (3 : Int32), .int (20 : Int32)] rfl rfl rfl ?_)
      refine z_isub dX8_effort_61 (z_abs gw1244 (Nat.le_of_ble_eq_true rfl) (Nat.le_of_ble_eq_true rfl) dX8_effort_62 (z_imul dX8_effort_65 (z_iadd dX8_effort_66 (z_iload_n 0 dX8_effort_67 rfl ?_))))
      refine z_callS (kc' := 0) (ks' := 0) (v := (some (.int (f_X8_column a0)))) (S1 := S) (w1 := w) (st := [.int ((20 : Int32) + ((3 : Int32) * (zabs ((f_X8_level a0) - (f_X8_level a1)))))]) [.int a0] (m_X8_column hW w a0) zy_X8_column gw1229 gw1228 (Nat.le_of_ble_eq_true rfl) (Nat.le_of_ble_eq_true rfl) (Nat.le_of_ble_eq_true rfl) (Nat.le_of_ble_eq_true rfl) (zal hW) rfl dX8_effort_68 (z_at 71 _ [.int (f_X8_column a0), .int ((20 : Int32) + ((3 : Int32) * (zabs ((f_X8_level a0) - (f_X8_level a1)))))] rfl rfl rfl ?_)
      refine z_iadd dX8_effort_71 (z_iload_n 1 dX8_effort_72 rfl ?_)
      refine z_callS (kc' := 0) (ks' := 0) (v := (some (.int (f_X8_column a1)))) (S1 := S) (w1 := w) (st := [.int (((20 : Int32) + ((3 : Int32) * (zabs ((f_X8_level a0) - (f_X8_level a1))))) + (f_X8_column a0))]) [.int a1] (m_X8_column hW w a1) zy_X8_column gw1229 gw1228 (Nat.le_of_ble_eq_true rfl) (Nat.le_of_ble_eq_true rfl) (Nat.le_of_ble_eq_true rfl) (Nat.le_of_ble_eq_true rfl) (zal hW) rfl dX8_effort_73 (z_at 76 _ [.int (f_X8_column a1), .int (((20 : Int32) + ((3 : Int32) * (zabs ((f_X8_level a0) - (f_X8_level a1))))) + (f_X8_column a0))] rfl rfl rfl ?_)
      refine z_iadd dX8_effort_76 (z_iload_n 1 dX8_effort_77 rfl ?_)
      refine z_callS (kc' := 0) (ks' := 0) (v := (some (.int (f_X8_depth a1)))) (S1 := S) (w1 := w) (st := [.int ((((20 : Int32) + ((3 : Int32) * (zabs ((f_X8_level a0) - (f_X8_level a1))))) + (f_X8_column a0)) + (f_X8_column a1))]) [.int a1] (m_X8_depth hW w a1) zy_X8_depth gw1236 gw1235 (Nat.le_of_ble_eq_true rfl) (Nat.le_of_ble_eq_true rfl) (Nat.le_of_ble_eq_true rfl) (Nat.le_of_ble_eq_true rfl) (zal hW) rfl dX8_effort_78 (z_at 81 _ [.int (f_X8_depth a1), .int ((((20 : Int32) + ((3 : Int32) * (zabs ((f_X8_level a0) - (f_X8_level a1))))) + (f_X8_column a0)) + (f_X8_column a1))] rfl rfl rfl ?_)
      refine z_iadd dX8_effort_81 ?_
      exact z_iret zemP rfl dX8_effort_82
    · refine z_iload_n 0 dX8_effort_32 rfl ?_
      refine z_callS (kc' := 0) (ks' := 0) (v := (some (.int (f_X8_column a0)))) (S1 := S) (w1 := w) (st := []) [.int a0] (m_X8_column hW w a0) zy_X8_column gw1229 gw1228 (Nat.le_of_ble_eq_true rfl) (Nat.le_of_ble_eq_true rfl) (Nat.le_of_ble_eq_true rfl) (Nat.le_of_ble_eq_true rfl) (zal hW) rfl dX8_effort_33 (z_at 36 _ [.int (f_X8_column a0)] rfl rfl rfl ?_)
      refine z_iload_n 1 dX8_effort_36 rfl ?_
      refine z_callS (kc' := 0) (ks' := 0) (v := (some (.int (f_X8_column a1)))) (S1 := S) (w1 := w) (st := [.int (f_X8_column a0)]) [.int a1] (m_X8_column hW w a1) zy_X8_column gw1229 gw1228 (Nat.le_of_ble_eq_true rfl) (Nat.le_of_ble_eq_true rfl) (Nat.le_of_ble_eq_true rfl) (Nat.le_of_ble_eq_true rfl) (zal hW) rfl dX8_effort_37 (z_at 40 _ [.int (f_X8_column a1), .int (f_X8_column a0)] rfl rfl rfl ?_)
      refine z_isub dX8_effort_40 (z_abs gw1244 (Nat.le_of_ble_eq_true rfl) (Nat.le_of_ble_eq_true rfl) dX8_effort_41 (z_iload_n 1 dX8_effort_44 rfl ?_))
      refine z_callS (kc' := 0) (ks' := 0) (v := (some (.int (f_X8_depth a1)))) (S1 := S) (w1 := w) (st := [.int (zabs ((f_X8_column a0) - (f_X8_column a1)))]) [.int a1] (m_X8_depth hW w a1) zy_X8_depth gw1236 gw1235 (Nat.le_of_ble_eq_true rfl) (Nat.le_of_ble_eq_true rfl) (Nat.le_of_ble_eq_true rfl) (Nat.le_of_ble_eq_true rfl) (zal hW) rfl dX8_effort_45 (z_at 48 _ [.int (f_X8_depth a1), .int (zabs ((f_X8_column a0) - (f_X8_column a1)))] rfl rfl rfl ?_)
      refine z_iadd dX8_effort_48 ?_
      exact z_iret zemP rfl dX8_effort_49
  · refine z_iconst dX8_effort_4 zi_3 (z_iload_n 1 dX8_effort_5 rfl ?_)
    refine z_callS (kc' := 0) (ks' := 0) (v := (some (.int (f_X8_level a1)))) (S1 := S) (w1 := w) (st := [.int (3 : Int32)]) [.int a1] (m_X8_level hW w a1) zy_X8_level gw1242 gw1241 (Nat.le_of_ble_eq_true rfl) (Nat.le_of_ble_eq_true rfl) (Nat.le_of_ble_eq_true rfl) (Nat.le_of_ble_eq_true rfl) (zal hW) rfl dX8_effort_6 (z_at 9 _ [.int (f_X8_level a1), .int (3 : Int32)] rfl rfl rfl ?_)
    refine z_imul dX8_effort_9 (z_iload_n 1 dX8_effort_10 rfl ?_)
    refine z_callS (kc' := 0) (ks' := 0) (v := (some (.int (f_X8_column a1)))) (S1 := S) (w1 := w) (st := [.int ((3 : Int32) * (f_X8_level a1))]) [.int a1] (m_X8_column hW w a1) zy_X8_column gw1229 gw1228 (Nat.le_of_ble_eq_true rfl) (Nat.le_of_ble_eq_true rfl) (Nat.le_of_ble_eq_true rfl) (Nat.le_of_ble_eq_true rfl) (zal hW) rfl dX8_effort_11 (z_at 14 _ [.int (f_X8_column a1), .int ((3 : Int32) * (f_X8_level a1))] rfl rfl rfl ?_)
    refine z_iadd dX8_effort_14 (z_iload_n 1 dX8_effort_15 rfl ?_)
    refine z_callS (kc' := 0) (ks' := 0) (v := (some (.int (f_X8_depth a1)))) (S1 := S) (w1 := w) (st := [.int (((3 : Int32) * (f_X8_level a1)) + (f_X8_column a1))]) [.int a1] (m_X8_depth hW w a1) zy_X8_depth gw1236 gw1235 (Nat.le_of_ble_eq_true rfl) (Nat.le_of_ble_eq_true rfl) (Nat.le_of_ble_eq_true rfl) (Nat.le_of_ble_eq_true rfl) (zal hW) rfl dX8_effort_16 (z_at 19 _ [.int (f_X8_depth a1), .int (((3 : Int32) * (f_X8_level a1)) + (f_X8_column a1))] rfl rfl rfl ?_)
    refine z_iadd dX8_effort_19 ?_
    exact z_iret zemP rfl dX8_effort_20

theorem m_X8_effort {E : ZE} {S : Zs} (hW : zWF S) (w : Zw) (a0 : Int32) (a1 : Int32) : ∀ i, f_X8_effort a0 a1 = some i → zMr E yX8_effort cX8_effort 2 ((some .int)) 6 0 0 [.int a0, .int a1] S w ((emP eI S w) i) :=
  fun i hi => z_enter (by decide +kernel) (Nat.le_of_ble_eq_true rfl) (mw_X8_effort hW w a0 a1 i hi)
/-! ParkingRobotModel.isBad (II)Z : P, depth 2 -/
abbrev i_X8_isBad : Zm := (yX8_isBad.cls, cX8_isBad, 3, (some .boolean), [], yX8_isBad.name)
def f_X8_isBad (S : Zs) (w : Zw) (a0 : Nat) (a1 : Int32) (a2 : Int32) : Option (Int32) :=
  if (f_X8_depth a1) = 0 then (f_X8_isEmpty S w a0 (a1 + (1 : Int32))).bind fun v2 => if v2 = 0 then (if zin (((79 : Int32) + a1) + (1 : Int32)) (zlen S (zr S a0 1)) = true then (f_X8_pickup S w a0 (w (zr S a0 1) (zix (((79 : Int32) + a1) + (1 : Int32))))).bind fun v6 => if a2 ≤ v6 then some (0 : Int32) else some (1 : Int32) else none) else some (0 : Int32) else some (0 : Int32)
theorem mw_X8_isBad {E : ZE} {S : Zs} (hW : zWF S) (w : Zw) (a0 : Nat) (h0 : zObj S a0 8) (a1 : Int32) (a2 : Int32) : zOk (E, i_X8_isBad, 2) 0 0 S w 0 [(0, .ref a0), (1, .int a1), (2, .int a2)] [] (emP eI S w) (f_X8_isBad S w a0 a1 a2) := by
  unfold f_X8_isBad
  refine z_iload_n 1 dX8_isBad_0 rfl ?_
  refine z_callS (kc' := 0) (ks' := 0) (v := (some (.int (f_X8_depth a1)))) (S1 := S) (w1 := w) (st := []) [.int a1] (m_X8_depth hW w a1) zy_X8_depth gw1236 gw1235 (Nat.le_of_ble_eq_true rfl) (Nat.le_of_ble_eq_true rfl) (Nat.le_of_ble_eq_true rfl) (Nat.le_of_ble_eq_true rfl) (zal hW) rfl dX8_isBad_1 (z_at 4 _ [.int (f_X8_depth a1)] rfl rfl rfl ?_)
  refine z_if_ne 40 dX8_isBad_4 rfl (fun q1 => ?_) (fun q1 => ?_)
  · refine z_iconst dX8_isBad_40 zi_0 ?_
    exact z_zret zemP rfl rfl dX8_isBad_41
  · refine z_aload_n 0 dX8_isBad_7 rfl (z_iload_n 1 dX8_isBad_8 rfl (z_iconst dX8_isBad_9 zi_1 (z_iadd dX8_isBad_10 ?_)))
    refine z_bind (fun v2 hb3 => ?_)
    refine z_callV (kc' := 0) (ks' := 0) (v := (some (.int v2))) (S1 := S) (w1 := w) (st := []) [.int (a1 + (1 : Int32))] (m_X8_isEmpty hW w a0 h0 (a1 + (1 : Int32)) v2 hb3) zc8 h0 zy_X8_isEmpty gw1223 gp29 gw1221 (Nat.le_of_ble_eq_true rfl) (Nat.le_of_ble_eq_true rfl) (Nat.le_of_ble_eq_true rfl) (Nat.le_of_ble_eq_true rfl) (zal hW) rfl dX8_isBad_11 (z_at 14 _ [.int v2] rfl rfl rfl ?_)
    refine z_if_ne 40 dX8_isBad_14 rfl (fun q4 => ?_) (fun q4 => ?_)
    · refine z_iconst dX8_isBad_40 zi_0 ?_
      exact z_zret zemP rfl rfl dX8_isBad_41
    · refine z_aload_n 0 dX8_isBad_17 rfl (z_aload_n 0 dX8_isBad_18 rfl (z_getR zc8 1 (by decide) rfl gw1108 h0 (zW_some hW h0 1 rfl) dX8_isBad_19 (z_bipush dX8_isBad_22 zb_79 (z_iload_n 1 dX8_isBad_24 rfl (z_iadd dX8_isBad_25 ?_)))))
      refine z_iconst dX8_isBad_26 zi_1 (z_iadd dX8_isBad_27 ?_)
      refine z_chk (fun c5 => ?_)
      refine z_iald (zW_arr hW h0 1 0 rfl) c5 dX8_isBad_28 ?_
      refine z_bind (fun v6 hb7 => ?_)
      refine z_callV (kc' := 0) (ks' := 0) (v := (some (.int v6))) (S1 := S) (w1 := w) (st := []) [.int (w (zr S a0 1) (zix (((79 : Int32) + a1) + (1 : Int32))))] (m_X8_pickup hW w a0 h0 (w (zr S a0 1) (zix (((79 : Int32) + a1) + (1 : Int32)))) v6 hb7) zc8 h0 zy_X8_pickup gw1251 gp32 gw1249 (Nat.le_of_ble_eq_true rfl) (Nat.le_of_ble_eq_true rfl) (Nat.le_of_ble_eq_true rfl) (Nat.le_of_ble_eq_true rfl) (zal hW) rfl dX8_isBad_29 (z_at 32 _ [.int v6] rfl rfl rfl ?_)
      refine z_iload_n 2 dX8_isBad_32 rfl ?_
      refine z_icmp_ge 40 dX8_isBad_33 rfl (fun q8 => ?_) (fun q8 => ?_)
      · refine z_iconst dX8_isBad_40 zi_0 ?_
        exact z_zret zemP rfl rfl dX8_isBad_41
      · refine z_iconst dX8_isBad_36 zi_1 (z_goto 41 dX8_isBad_37 rfl ?_)
        exact z_zret zemP rfl rfl dX8_isBad_41

theorem m_X8_isBad {E : ZE} {S : Zs} (hW : zWF S) (w : Zw) (a0 : Nat) (h0 : zObj S a0 8) (a1 : Int32) (a2 : Int32) : ∀ i, f_X8_isBad S w a0 a1 a2 = some i → zMr E yX8_isBad cX8_isBad 3 ((some .boolean)) 2 0 0 [.ref a0, .int a1, .int a2] S w ((emP eI S w) i) :=
  fun i hi => z_enter (by decide +kernel) (Nat.le_of_ble_eq_true rfl) (mw_X8_isBad hW w a0 h0 a1 a2 i hi)
/-! ParkingRobotModel.chosen (III)I : P, depth 7 -/
abbrev i_X8_chosen : Zm := (yX8_chosen.cls, cX8_chosen, 8, (some .int), [], yX8_chosen.name)
def f_X8_chosen_j87 (S : Zs) (w : Zw) (x0 : Nat) (x1 : Int32) (x2 : Int32) (x3 : Int32) (x4 : Int32) (x5 : Int32) (x6 : Int32) (y0 : Int32) (y1 : Int32) (k9 : (Int32 × Int32 × Int32) → Option (Int32)) : Option (Int32) :=
  zlet (y1 + y0) fun z16 => if x4 < 0 then k9 (x6, z16, (x6 + (1 : Int32))) else if z16 < x5 then k9 (x6, z16, (x6 + (1 : Int32))) else k9 (x4, x5, (x6 + (1 : Int32)))
theorem m_X8_chosen_j87 {E : ZE} {S : Zs} (hW : zWF S) (w : Zw) (x0 : Nat) (hx0 : zObj S x0 8) (x1 : Int32) (x2 : Int32) (x3 : Int32) (x4 : Int32) (x5 : Int32) (x6 : Int32) (y0 : Int32) (y1 : Int32) (k9 : (Int32 × Int32 × Int32) → Option (Int32)) (hk9 : ∀ a : Int32 × Int32 × Int32, zOk (E, i_X8_chosen, 7) 0 0 S w 9 [(0, .ref x0), (1, .int x1), (2, .int x2), (3, .int x3), (4, .int a.1), (5, .int a.2.1), (6, .int a.2.2)] [] (emP eI S w) (k9 a)) : zOk (E, i_X8_chosen, 7) 0 0 S w 87 [(0, .ref x0), (1, .int x1), (2, .int x2), (3, .int x3), (4, .int x4), (5, .int x5), (6, .int x6)] [.int y0, .int y1] (emP eI S w) (f_X8_chosen_j87 S w x0 x1 x2 x3 x4 x5 x6 y0 y1 k9) := by
  unfold f_X8_chosen_j87
  refine z_iadd dX8_chosen_87 ?_
  refine z_let (a := (y1 + y0)) (fun z16 => [(0, .ref x0), (1, .int x1), (2, .int x2), (3, .int x3), (4, .int x4), (5, .int x5), (6, .int x6)]) (fun z16 => .int z16 :: []) (fun z16 => ?_)
  refine z_istore (lv' := [(7, .int z16), (0, .ref x0), (1, .int x1), (2, .int x2), (3, .int x3), (4, .int x4), (5, .int x5), (6, .int x6)]) dX8_chosen_88 (Nat.le_of_ble_eq_true rfl) rfl (z_iload 5 dX8_chosen_90 rfl ?_)
  refine z_if_lt 105 dX8_chosen_92 rfl (fun q17 => ?_) (fun q17 => ?_)
  · refine z_iload 7 dX8_chosen_105 rfl (z_istore (lv' := [(4, .int x6), (7, .int z16), (0, .ref x0), (1, .int x1), (2, .int x2), (3, .int x3), (5, .int x5), (6, .int x6)]) dX8_chosen_107 (Nat.le_of_ble_eq_true rfl) rfl (z_iload 1 dX8_chosen_109 rfl (z_istore (lv' := [(5, .int z16), (4, .int x6), (7, .int z16), (0, .ref x0), (1, .int x1), (2, .int x2), (3, .int x3), (6, .int x6)]) dX8_chosen_111 (Nat.le_of_ble_eq_true rfl) rfl (z_iinc (v := (x6 + (1 : Int32))) (lv' := [(6, .int (x6 + (1 : Int32))), (5, .int z16), (4, .int x6), (7, .int z16), (0, .ref x0), (1, .int x1), (2, .int x2), (3, .int x3)]) 7 dX8_chosen_113 rfl (zi_inc _ zi_1) (Nat.le_of_ble_eq_true rfl) rfl (z_goto 9 dX8_chosen_116 rfl ?_)))))
    refine z_sub (lv' := [(0, .ref x0), (1, .int x1), (2, .int x2), (3, .int x3), (4, .int x6), (5, .int z16), (6, .int (x6 + (1 : Int32)))]) [4, 5, 6, 7, 2, 1, 0] rfl ?_
    refine z_pc (pc' := 9) rfl ?_
    exact hk9 (x6, z16, (x6 + (1 : Int32)))
  · refine z_iload 0 dX8_chosen_95 rfl (z_iload 6 dX8_chosen_97 rfl ?_)
    refine z_icmp_lt 105 dX8_chosen_99 rfl (fun q18 => ?_) (fun q18 => ?_)
    · refine z_iload 7 dX8_chosen_105 rfl (z_istore (lv' := [(4, .int x6), (7, .int z16), (0, .ref x0), (1, .int x1), (2, .int x2), (3, .int x3), (5, .int x5), (6, .int x6)]) dX8_chosen_107 (Nat.le_of_ble_eq_true rfl) rfl (z_iload 1 dX8_chosen_109 rfl (z_istore (lv' := [(5, .int z16), (4, .int x6), (7, .int z16), (0, .ref x0), (1, .int x1), (2, .int x2), (3, .int x3), (6, .int x6)]) dX8_chosen_111 (Nat.le_of_ble_eq_true rfl) rfl (z_iinc (v := (x6 + (1 : Int32))) (lv' := [(6, .int (x6 + (1 : Int32))), (5, .int z16), (4, .int x6), (7, .int z16), (0, .ref x0), (1, .int x1), (2, .int x2), (3, .int x3)]) 7 dX8_chosen_113 rfl (zi_inc _ zi_1) (Nat.le_of_ble_eq_true rfl) rfl (z_goto 9 dX8_chosen_116 rfl ?_)))))
      refine z_sub (lv' := [(0, .ref x0), (1, .int x1), (2, .int x2), (3, .int x3), (4, .int x6), (5, .int z16), (6, .int (x6 + (1 : Int32)))]) [4, 5, 6, 7, 2, 1, 0] rfl ?_
      refine z_pc (pc' := 9) rfl ?_
      exact hk9 (x6, z16, (x6 + (1 : Int32)))
    · refine z_goto 113 dX8_chosen_102 rfl (z_iinc (v := (x6 + (1 : Int32))) (lv' := [(6, .int (x6 + (1 : Int32))), (7, .int z16), (0, .ref x0), (1, .int x1), (2, .int x2), (3, .int x3), (4, .int x4), (5, .int x5)]) 7 dX8_chosen_113 rfl (zi_inc _ zi_1) (Nat.le_of_ble_eq_true rfl) rfl (z_goto 9 dX8_chosen_116 rfl ?_))
      refine z_sub (lv' := [(0, .ref x0), (1, .int x1), (2, .int x2), (3, .int x3), (4, .int x4), (5, .int x5), (6, .int (x6 + (1 : Int32)))]) [2, 3, 4, 5, 6, 7, 0] rfl ?_
      refine z_pc (pc' := 9) rfl ?_
      exact hk9 (x4, x5, (x6 + (1 : Int32)))

def f_X8_chosen_j52 (S : Zs) (w : Zw) (x0 : Nat) (x1 : Int32) (x2 : Int32) (x3 : Int32) (x4 : Int32) (x5 : Int32) (x6 : Int32) (k9 : (Int32 × Int32 × Int32) → Option (Int32)) : Option (Int32) :=
  (f_X8_isReached S w x0 x6).bind fun v8 => if v8 = 0 then k9 (x4, x5, (x6 + (1 : Int32))) else (f_X8_effort x3 x6).bind fun v11 => (f_X8_isBad S w x0 x6 x2).bind fun v13 => if v13 = 0 then f_X8_chosen_j87 S w x0 x1 x2 x3 x4 x5 x6 (0 : Int32) v11 k9  else f_X8_chosen_j87 S w x0 x1 x2 x3 x4 x5 x6 (1000 : Int32) v11 k9 
theorem m_X8_chosen_j52 {E : ZE} {S : Zs} (hW : zWF S) (w : Zw) (x0 : Nat) (hx0 : zObj S x0 8) (x1 : Int32) (x2 : Int32) (x3 : Int32) (x4 : Int32) (x5 : Int32) (x6 : Int32) (k9 : (Int32 × Int32 × Int32) → Option (Int32)) (hk9 : ∀ a : Int32 × Int32 × Int32, zOk (E, i_X8_chosen, 7) 0 0 S w 9 [(0, .ref x0), (1, .int x1), (2, .int x2), (3, .int x3), (4, .int a.1), (5, .int a.2.1), (6, .int a.2.2)] [] (emP eI S w) (k9 a)) : zOk (E, i_X8_chosen, 7) 0 0 S w 52 [(0, .ref x0), (1, .int x1), (2, .int x2), (3, .int x3), (4, .int x4), (5, .int x5), (6, .int x6)] [] (emP eI S w) (f_X8_chosen_j52 S w x0 x1 x2 x3 x4 x5 x6 k9) := by
  unfold f_X8_chosen_j52
  refine z_aload_n 0 dX8_chosen_52 rfl (z_iload 6 dX8_chosen_53 rfl ?_)
  refine z_bind (fun v8 hb9 => ?_)
  refine z_callV (kc' := 0) (ks' := 0) (v := (some (.int v8))) (S1 := S) (w1 := w) (st := []) [.int x6] (m_X8_isReached hW w x0 hx0 x6 v8 hb9) zc8 hx0 zy_X8_isReached gw1233 gp30 gw1231 (Nat.le_of_ble_eq_true rfl) (Nat.le_of_ble_eq_true rfl) (Nat.le_of_ble_eq_true rfl) (Nat.le_of_ble_eq_true rfl) (zal hW) rfl dX8_chosen_55 (z_at 58 _ [.int v8] rfl rfl rfl ?_)
  refine z_if_ne 64 dX8_chosen_58 rfl (fun q10 => ?_) (fun q10 => ?_)
  · refine z_iload_n 3 dX8_chosen_64 rfl (z_iload 6 dX8_chosen_65 rfl ?_)
    refine z_bind (fun v11 hb12 => ?_)
    refine z_callS (kc' := 0) (ks' := 0) (v := (some (.int v11))) (S1 := S) (w1 := w) (st := []) [.int x3, .int x6] (m_X8_effort hW w x3 x6 v11 hb12) zy_X8_effort gw1239 gw1238 (Nat.le_of_ble_eq_true rfl) (Nat.le_of_ble_eq_true rfl) (Nat.le_of_ble_eq_true rfl) (Nat.le_of_ble_eq_true rfl) (zal hW) rfl dX8_chosen_67 (z_at 70 _ [.int v11] rfl rfl rfl ?_)
    refine z_aload_n 0 dX8_chosen_70 rfl (z_iload 6 dX8_chosen_71 rfl (z_iload_n 2 dX8_chosen_73 rfl ?_))
    refine z_bind (fun v13 hb14 => ?_)
    refine z_callV (kc' := 0) (ks' := 0) (v := (some (.int v13))) (S1 := S) (w1 := w) (st := [.int v11]) [.int x6, .int x2] (m_X8_isBad hW w x0 hx0 x6 x2 v13 hb14) zc8 hx0 zy_X8_isBad gw1247 gp31 gw1245 (Nat.le_of_ble_eq_true rfl) (Nat.le_of_ble_eq_true rfl) (Nat.le_of_ble_eq_true rfl) (Nat.le_of_ble_eq_true rfl) (zal hW) rfl dX8_chosen_74 (z_at 77 _ [.int v13, .int v11] rfl rfl rfl ?_)
    refine z_if_eq 86 dX8_chosen_77 rfl (fun q15 => ?_) (fun q15 => ?_)
    · refine z_iconst dX8_chosen_86 zi_0 ?_
      refine z_pc (pc' := 87) rfl ?_
      exact m_X8_chosen_j87 hW w x0 hx0 x1 x2 x3 x4 x5 x6 (0 : Int32) v11 k9 hk9 
    · refine z_sipush dX8_chosen_80 zs_1000 (z_goto 87 dX8_chosen_83 rfl ?_)
      refine z_pc (pc' := 87) rfl ?_
      exact m_X8_chosen_j87 hW w x0 hx0 x1 x2 x3 x4 x5 x6 (1000 : Int32) v11 k9 hk9 
  · refine z_goto 113 dX8_chosen_61 rfl (z_iinc (v := (x6 + (1 : Int32))) (lv' := [(6, .int (x6 + (1 : Int32))), (0, .ref x0), (1, .int x1), (2, .int x2), (3, .int x3), (4, .int x4), (5, .int x5)]) 6 dX8_chosen_113 rfl (zi_inc _ zi_1) (Nat.le_of_ble_eq_true rfl) rfl (z_goto 9 dX8_chosen_116 rfl ?_))
    refine z_sub (lv' := [(0, .ref x0), (1, .int x1), (2, .int x2), (3, .int x3), (4, .int x4), (5, .int x5), (6, .int (x6 + (1 : Int32)))]) [1, 2, 3, 4, 5, 6, 0] rfl ?_
    refine z_pc (pc' := 9) rfl ?_
    exact hk9 (x4, x5, (x6 + (1 : Int32)))

def f_X8_chosen_b9 (S : Zs) (w : Zw) (x0 : Nat) (x1 : Int32) (x2 : Int32) (x3 : Int32) (k : (Int32 × Int32 × Int32) → Option (Int32)) (x4 : Int32) (x5 : Int32) (x6 : Int32) : Option (Int32) :=
  if (60 : Int32) ≤ x6 then some x4 else if zin ((19 : Int32) + x6) (zlen S (zr S x0 1)) = true then if (w (zr S x0 1) (zix ((19 : Int32) + x6))) = (1 : Int32) then k (x4, x5, (x6 + (1 : Int32))) else (f_X8_isEmpty S w x0 x6).bind fun v4 => if v4 = 0 then k (x4, x5, (x6 + (1 : Int32))) else if x1 = (1 : Int32) then (f_X8_isWide x6).bind fun v19 => if v19 = 0 then k (x4, x5, (x6 + (1 : Int32))) else f_X8_chosen_j52 S w x0 x1 x2 x3 x4 x5 x6 k  else f_X8_chosen_j52 S w x0 x1 x2 x3 x4 x5 x6 k  else none
def f_X8_chosen_l9 (S : Zs) (w : Zw) (x0 : Nat) (x1 : Int32) (x2 : Int32) (x3 : Int32) (a : Int32 × Int32 × Int32) : Option (Int32) :=
  zlp (fun k a => f_X8_chosen_b9 S w x0 x1 x2 x3 k a.1 a.2.1 a.2.2) zFU a
theorem m_X8_chosen_l9 {E : ZE} {S : Zs} (hW : zWF S) (w : Zw) (x0 : Nat) (hx0 : zObj S x0 8) (x1 : Int32) (x2 : Int32) (x3 : Int32) : ∀ a : Int32 × Int32 × Int32, zOk (E, i_X8_chosen, 7) 0 0 S w 9 [(0, .ref x0), (1, .int x1), (2, .int x2), (3, .int x3), (4, .int a.1), (5, .int a.2.1), (6, .int a.2.2)] [] (emP eI S w) (f_X8_chosen_l9 S w x0 x1 x2 x3 a) := by
  intro a
  refine z_lp (P := fun _ => True) (W9 := fun a : Int32 × Int32 × Int32 => w) (L9 := fun a : Int32 × Int32 × Int32 => [(0, .ref x0), (1, .int x1), (2, .int x2), (3, .int x3), (4, .int a.1), (5, .int a.2.1), (6, .int a.2.2)]) (T9 := fun _ => []) (fun k hk9 a _ => ?_) zFU a trivial
  have hk : ∀ a : Int32 × Int32 × Int32, zOk (E, i_X8_chosen, 7) 0 0 S w 9 [(0, .ref x0), (1, .int x1), (2, .int x2), (3, .int x3), (4, .int a.1), (5, .int a.2.1), (6, .int a.2.2)] [] (emP eI S w) (k a) := fun a => hk9 a trivial
  clear hk9
  obtain ⟨x4, x5, x6⟩ := a
  show zOk (E, i_X8_chosen, 7) 0 0 S w 9 [(0, .ref x0), (1, .int x1), (2, .int x2), (3, .int x3), (4, .int x4), (5, .int x5), (6, .int x6)] [] (emP eI S w) (f_X8_chosen_b9 S w x0 x1 x2 x3 k x4 x5 x6)
  unfold f_X8_chosen_b9
  refine z_iload 6 dX8_chosen_9 rfl (z_bipush dX8_chosen_11 zb_60 ?_)
  refine z_icmp_ge 119 dX8_chosen_13 rfl (fun q1 => ?_) (fun q1 => ?_)
  · refine z_iload 4 dX8_chosen_119 rfl ?_
    exact z_iret zemP rfl dX8_chosen_121
  · refine z_aload_n 0 dX8_chosen_16 rfl (z_getR zc8 1 (by decide) rfl gw1108 hx0 (zW_some hW hx0 1 rfl) dX8_chosen_17 (z_bipush dX8_chosen_20 zb_19 (z_iload 6 dX8_chosen_22 rfl (z_iadd dX8_chosen_24 ?_))))
    refine z_chk (fun c2 => ?_)
    refine z_iald (zW_arr hW hx0 1 0 rfl) c2 dX8_chosen_25 (z_iconst dX8_chosen_26 zi_1 ?_)
    refine z_icmp_eq 113 dX8_chosen_27 rfl (fun q3 => ?_) (fun q3 => ?_)
    · refine z_iinc (v := (x6 + (1 : Int32))) (lv' := [(6, .int (x6 + (1 : Int32))), (0, .ref x0), (1, .int x1), (2, .int x2), (3, .int x3), (4, .int x4), (5, .int x5)]) 6 dX8_chosen_113 rfl (zi_inc _ zi_1) (Nat.le_of_ble_eq_true rfl) rfl (z_goto 9 dX8_chosen_116 rfl ?_)
      refine z_sub (lv' := [(0, .ref x0), (1, .int x1), (2, .int x2), (3, .int x3), (4, .int x4), (5, .int x5), (6, .int (x6 + (1 : Int32)))]) [1, 2, 3, 4, 5, 6, 0] rfl ?_
      refine z_pc (pc' := 9) rfl ?_
      exact hk (x4, x5, (x6 + (1 : Int32)))
    · refine z_aload_n 0 dX8_chosen_30 rfl (z_iload 6 dX8_chosen_31 rfl ?_)
      refine z_bind (fun v4 hb5 => ?_)
      refine z_callV (kc' := 0) (ks' := 0) (v := (some (.int v4))) (S1 := S) (w1 := w) (st := []) [.int x6] (m_X8_isEmpty hW w x0 hx0 x6 v4 hb5) zc8 hx0 zy_X8_isEmpty gw1223 gp29 gw1221 (Nat.le_of_ble_eq_true rfl) (Nat.le_of_ble_eq_true rfl) (Nat.le_of_ble_eq_true rfl) (Nat.le_of_ble_eq_true rfl) (zal hW) rfl dX8_chosen_33 (z_at 36 _ [.int v4] rfl rfl rfl ?_)
      refine z_if_eq 113 dX8_chosen_36 rfl (fun q6 => ?_) (fun q6 => ?_)
      · refine z_iinc (v := (x6 + (1 : Int32))) (lv' := [(6, .int (x6 + (1 : Int32))), (0, .ref x0), (1, .int x1), (2, .int x2), (3, .int x3), (4, .int x4), (5, .int x5)]) 6 dX8_chosen_113 rfl (zi_inc _ zi_1) (Nat.le_of_ble_eq_true rfl) rfl (z_goto 9 dX8_chosen_116 rfl ?_)
        refine z_sub (lv' := [(0, .ref x0), (1, .int x1), (2, .int x2), (3, .int x3), (4, .int x4), (5, .int x5), (6, .int (x6 + (1 : Int32)))]) [1, 2, 3, 4, 5, 6, 0] rfl ?_
        refine z_pc (pc' := 9) rfl ?_
        exact hk (x4, x5, (x6 + (1 : Int32)))
      · refine z_iload_n 1 dX8_chosen_39 rfl (z_iconst dX8_chosen_40 zi_1 ?_)
        refine z_icmp_ne 52 dX8_chosen_41 rfl (fun q7 => ?_) (fun q7 => ?_)
        · refine z_pc (pc' := 52) rfl ?_
          exact m_X8_chosen_j52 hW w x0 hx0 x1 x2 x3 x4 x5 x6 k hk 
        · refine z_iload 6 dX8_chosen_44 rfl ?_
          refine z_bind (fun v19 hb20 => ?_)
          refine z_callS (kc' := 0) (ks' := 0) (v := (some (.int v19))) (S1 := S) (w1 := w) (st := []) [.int x6] (m_X8_isWide hW w x6 v19 hb20) zy_X8_isWide gw1226 gw1225 (Nat.le_of_ble_eq_true rfl) (Nat.le_of_ble_eq_true rfl) (Nat.le_of_ble_eq_true rfl) (Nat.le_of_ble_eq_true rfl) (zal hW) rfl dX8_chosen_46 (z_at 49 _ [.int v19] rfl rfl rfl ?_)
          refine z_if_eq 113 dX8_chosen_49 rfl (fun q21 => ?_) (fun q21 => ?_)
          · refine z_iinc (v := (x6 + (1 : Int32))) (lv' := [(6, .int (x6 + (1 : Int32))), (0, .ref x0), (1, .int x1), (2, .int x2), (3, .int x3), (4, .int x4), (5, .int x5)]) 6 dX8_chosen_113 rfl (zi_inc _ zi_1) (Nat.le_of_ble_eq_true rfl) rfl (z_goto 9 dX8_chosen_116 rfl ?_)
            refine z_sub (lv' := [(0, .ref x0), (1, .int x1), (2, .int x2), (3, .int x3), (4, .int x4), (5, .int x5), (6, .int (x6 + (1 : Int32)))]) [1, 2, 3, 4, 5, 6, 0] rfl ?_
            refine z_pc (pc' := 9) rfl ?_
            exact hk (x4, x5, (x6 + (1 : Int32)))
          · refine z_pc (pc' := 52) rfl ?_
            exact m_X8_chosen_j52 hW w x0 hx0 x1 x2 x3 x4 x5 x6 k hk 

def f_X8_chosen (S : Zs) (w : Zw) (a0 : Nat) (a1 : Int32) (a2 : Int32) (a3 : Int32) : Option (Int32) :=
  f_X8_chosen_l9 S w a0 a1 a2 a3 ((-1 : Int32), (0 : Int32), (0 : Int32))
theorem mw_X8_chosen {E : ZE} {S : Zs} (hW : zWF S) (w : Zw) (a0 : Nat) (h0 : zObj S a0 8) (a1 : Int32) (a2 : Int32) (a3 : Int32) : zOk (E, i_X8_chosen, 7) 0 0 S w 0 [(0, .ref a0), (1, .int a1), (2, .int a2), (3, .int a3)] [] (emP eI S w) (f_X8_chosen S w a0 a1 a2 a3) := by
  unfold f_X8_chosen
  refine z_iconst dX8_chosen_0 zi_m1 (z_istore (lv' := [(4, .int (-1 : Int32)), (0, .ref a0), (1, .int a1), (2, .int a2), (3, .int a3)]) dX8_chosen_1 (Nat.le_of_ble_eq_true rfl) rfl (z_iconst dX8_chosen_3 zi_0 (z_istore (lv' := [(5, .int (0 : Int32)), (4, .int (-1 : Int32)), (0, .ref a0), (1, .int a1), (2, .int a2), (3, .int a3)]) dX8_chosen_4 (Nat.le_of_ble_eq_true rfl) rfl (z_iconst dX8_chosen_6 zi_0 (z_istore (lv' := [(6, .int (0 : Int32)), (5, .int (0 : Int32)), (4, .int (-1 : Int32)), (0, .ref a0), (1, .int a1), (2, .int a2), (3, .int a3)]) dX8_chosen_7 (Nat.le_of_ble_eq_true rfl) rfl ?_)))))
  refine z_sub (lv' := [(0, .ref a0), (1, .int a1), (2, .int a2), (3, .int a3), (4, .int (-1 : Int32)), (5, .int (0 : Int32)), (6, .int (0 : Int32))]) [3, 4, 5, 6, 2, 1, 0] rfl ?_
  refine z_pc (pc' := 9) rfl ?_
  exact m_X8_chosen_l9 hW w a0 h0 a1 a2 a3 ((-1 : Int32), (0 : Int32), (0 : Int32))

theorem m_X8_chosen {E : ZE} {S : Zs} (hW : zWF S) (w : Zw) (a0 : Nat) (h0 : zObj S a0 8) (a1 : Int32) (a2 : Int32) (a3 : Int32) : ∀ i, f_X8_chosen S w a0 a1 a2 a3 = some i → zMr E yX8_chosen cX8_chosen 8 ((some .int)) 7 0 0 [.ref a0, .int a1, .int a2, .int a3] S w ((emP eI S w) i) :=
  fun i hi => z_enter (by decide +kernel) (Nat.le_of_ble_eq_true rfl) (mw_X8_chosen hW w a0 h0 a1 a2 a3 i hi)
/-! ParkingRobotModel.jobBegins ()V : W, depth 0 -/
abbrev i_X8_jobBegins : Zm := (yX8_jobBegins.cls, cX8_jobBegins, 1, none, [], yX8_jobBegins.name)
def f_X8_jobBegins (S : Zs) (w : Zw) (a0 : Nat) : Option (Unit × Zw) :=
  zlet (zput w a0 8 (2147483647 : Int32)) fun w1 => zlet (zput w1 a0 9 (0 : Int32)) fun w2 => some ((), w2)
theorem mw_X8_jobBegins {E : ZE} {S : Zs} (hW : zWF S) (w : Zw) (a0 : Nat) (h0 : zObj S a0 8) : zOk (E, i_X8_jobBegins, 0) 0 0 S w 0 [(0, .ref a0)] [] (emW eU S) (f_X8_jobBegins S w a0) := by
  unfold f_X8_jobBegins
  refine z_aload_n 0 dX8_jobBegins_0 rfl (z_ldci gw_maxint dX8_jobBegins_1 ?_)
  refine z_putI zc8 8 (by decide) (Or.inl rfl) rfl gw1115 h0 dX8_jobBegins_3 (z_letw (fun w1 => ?_))
  refine z_aload_n 0 dX8_jobBegins_6 rfl (z_iconst dX8_jobBegins_7 zi_0 ?_)
  refine z_putI zc8 9 (by decide) (Or.inl rfl) rfl gw1116 h0 dX8_jobBegins_8 (z_letw (fun w2 => ?_))
  exact z_vret zemW rfl dX8_jobBegins_11

theorem m_X8_jobBegins {E : ZE} {S : Zs} (hW : zWF S) (w : Zw) (a0 : Nat) (h0 : zObj S a0 8) : ∀ i, f_X8_jobBegins S w a0 = some i → zMr E yX8_jobBegins cX8_jobBegins 1 none 0 0 0 [.ref a0] S w ((emW eU S) i) :=
  fun i hi => z_enter (by decide +kernel) (Nat.le_of_ble_eq_true rfl) (mw_X8_jobBegins hW w a0 h0 i hi)
/-! ParkingRobotModel.ready (I)I : P, depth 6 -/
abbrev i_X8_ready : Zm := (yX8_ready.cls, cX8_ready, 2, (some .int), [], yX8_ready.name)
def f_X8_ready (S : Zs) (w : Zw) (a0 : Nat) (a1 : Int32) : Option (Int32) :=
  if zin (0 : Int32) (zlen S (zr S a0 1)) = true then if zin (((7 : Int32) + ((3 : Int32) * a1)) + (1 : Int32)) (zlen S (zr S a0 1)) = true then some (zmax (w (zr S a0 1) (zix (0 : Int32))) (w (zr S a0 1) (zix (((7 : Int32) + ((3 : Int32) * a1)) + (1 : Int32))))) else none else none
theorem mw_X8_ready {E : ZE} {S : Zs} (hW : zWF S) (w : Zw) (a0 : Nat) (h0 : zObj S a0 8) (a1 : Int32) : zOk (E, i_X8_ready, 6) 0 0 S w 0 [(0, .ref a0), (1, .int a1)] [] (emP eI S w) (f_X8_ready S w a0 a1) := by
  unfold f_X8_ready
  refine z_aload_n 0 dX8_ready_0 rfl (z_getR zc8 1 (by decide) rfl gw1108 h0 (zW_some hW h0 1 rfl) dX8_ready_1 (z_iconst dX8_ready_4 zi_0 ?_))
  refine z_chk (fun c1 => ?_)
  refine z_iald (zW_arr hW h0 1 0 rfl) c1 dX8_ready_5 (z_aload_n 0 dX8_ready_6 rfl (z_getR zc8 1 (by decide) rfl gw1108 h0 (zW_some hW h0 1 rfl) dX8_ready_7 (z_bipush dX8_ready_10 zb_7 (z_iconst dX8_ready_12 zi_3 (z_iload_n 1 dX8_ready_13 rfl ?_)))))
  refine z_imul dX8_ready_14 (z_iadd dX8_ready_15 (z_iconst dX8_ready_16 zi_1 (z_iadd dX8_ready_17 ?_)))
  refine z_chk (fun c2 => ?_)
  refine z_iald (zW_arr hW h0 1 0 rfl) c2 dX8_ready_18 (z_max gw1270 (Nat.le_of_ble_eq_true rfl) (Nat.le_of_ble_eq_true rfl) dX8_ready_19 ?_)
  exact z_iret zemP rfl dX8_ready_22

theorem m_X8_ready {E : ZE} {S : Zs} (hW : zWF S) (w : Zw) (a0 : Nat) (h0 : zObj S a0 8) (a1 : Int32) : ∀ i, f_X8_ready S w a0 a1 = some i → zMr E yX8_ready cX8_ready 2 ((some .int)) 6 0 0 [.ref a0, .int a1] S w ((emP eI S w) i) :=
  fun i hi => z_enter (by decide +kernel) (Nat.le_of_ble_eq_true rfl) (mw_X8_ready hW w a0 h0 a1 i hi)
/-! ParkingRobotModel.handling (I)I : T, depth 1 -/
abbrev i_X8_handling : Zm := (yX8_handling.cls, cX8_handling, 1, (some .int), [], yX8_handling.name)
def f_X8_handling (a0 : Int32) : Int32 :=
  ((2 : Int32) + (f_X8_depth a0))
theorem mw_X8_handling {E : ZE} {S : Zs} (hW : zWF S) (w : Zw) (a0 : Int32) : zOk (E, i_X8_handling, 1) 0 0 S w 0 [(0, .int a0)] [] (emP eI S w) (some (f_X8_handling a0)) := by
  unfold f_X8_handling
  refine z_iconst dX8_handling_0 zi_2 (z_iload_n 0 dX8_handling_1 rfl ?_)
  refine z_callS (kc' := 0) (ks' := 0) (v := (some (.int (f_X8_depth a0)))) (S1 := S) (w1 := w) (st := [.int (2 : Int32)]) [.int a0] (m_X8_depth hW w a0) zy_X8_depth gw1236 gw1235 (Nat.le_of_ble_eq_true rfl) (Nat.le_of_ble_eq_true rfl) (Nat.le_of_ble_eq_true rfl) (Nat.le_of_ble_eq_true rfl) (zal hW) rfl dX8_handling_2 (z_at 5 _ [.int (f_X8_depth a0), .int (2 : Int32)] rfl rfl rfl ?_)
  refine z_iadd dX8_handling_5 ?_
  exact z_iret zemP rfl dX8_handling_6

theorem m_X8_handling {E : ZE} {S : Zs} (hW : zWF S) (w : Zw) (a0 : Int32) : zMr E yX8_handling cX8_handling 1 ((some .int)) 1 0 0 [.int a0] S w (.inl (eI (f_X8_handling a0)), S, w) :=
  z_enter (by decide +kernel) (Nat.le_of_ble_eq_true rfl) (mw_X8_handling hW w a0 _ rfl)
/-! ParkingRobotModel.does (III)V : W, depth 7 -/
abbrev i_X8_does : Zm := (yX8_does.cls, cX8_does, 5, none, [], yX8_does.name)
def f_X8_does (S : Zs) (w : Zw) (a0 : Nat) (a1 : Int32) (a2 : Int32) (a3 : Int32) : Option (Unit × Zw) :=
  (f_X8_ready S w a0 a1).bind fun v1 => zlet (zput w a0 8 (zmin (w a0 8) v1)) fun w3 => zlet (zput w3 a0 9 (zmax (w3 a0 9) a2)) fun w4 => if zin ((7 : Int32) + ((3 : Int32) * a1)) (zlen S (zr S a0 1)) = true then zlet (zput w4 (zr S a0 1) (zix ((7 : Int32) + ((3 : Int32) * a1))) a3) fun w6 => if zin (((7 : Int32) + ((3 : Int32) * a1)) + (2 : Int32)) (zlen S (zr S a0 1)) = true then if zin (((7 : Int32) + ((3 : Int32) * a1)) + (2 : Int32)) (zlen S (zr S a0 1)) = true then zlet (zput w6 (zr S a0 1) (zix (((7 : Int32) + ((3 : Int32) * a1)) + (2 : Int32))) ((w6 (zr S a0 1) (zix (((7 : Int32) + ((3 : Int32) * a1)) + (2 : Int32)))) + (a2 - v1))) fun w9 => if zin (((7 : Int32) + ((3 : Int32) * a1)) + (1 : Int32)) (zlen S (zr S a0 1)) = true then zlet (zput w9 (zr S a0 1) (zix (((7 : Int32) + ((3 : Int32) * a1)) + (1 : Int32))) a2) fun w11 => some ((), w11) else none else none else none else none
theorem mw_X8_does {E : ZE} {S : Zs} (hW : zWF S) (w : Zw) (a0 : Nat) (h0 : zObj S a0 8) (a1 : Int32) (a2 : Int32) (a3 : Int32) : zOk (E, i_X8_does, 7) 0 0 S w 0 [(0, .ref a0), (1, .int a1), (2, .int a2), (3, .int a3)] [] (emW eU S) (f_X8_does S w a0 a1 a2 a3) := by
  unfold f_X8_does
  refine z_aload_n 0 dX8_does_0 rfl (z_iload_n 1 dX8_does_1 rfl ?_)
  refine z_bind (fun v1 hb2 => ?_)
  refine z_callV (kc' := 0) (ks' := 0) (v := (some (.int v1))) (S1 := S) (w1 := w) (st := []) [.int a1] (m_X8_ready hW w a0 h0 a1 v1 hb2) zc8 h0 zy_X8_ready gw1268 gp36 gw1266 (Nat.le_of_ble_eq_true rfl) (Nat.le_of_ble_eq_true rfl) (Nat.le_of_ble_eq_true rfl) (Nat.le_of_ble_eq_true rfl) (zal hW) rfl dX8_does_2 (z_at 5 _ [.int v1] rfl rfl rfl ?_)
  refine z_istore (lv' := [(4, .int v1), (0, .ref a0), (1, .int a1), (2, .int a2), (3, .int a3)]) dX8_does_5 (Nat.le_of_ble_eq_true rfl) rfl (z_aload_n 1 dX8_does_7 rfl (z_aload_n 1 dX8_does_8 rfl (z_getI zc8 8 (by decide) rfl gw1115 h0 dX8_does_9 (z_iload 0 dX8_does_12 rfl (z_min gw1279 (Nat.le_of_ble_eq_true rfl) (Nat.le_of_ble_eq_true rfl) dX8_does_14 ?_)))))
  refine z_putI zc8 8 (by decide) (Or.inl rfl) rfl gw1115 h0 dX8_does_17 (z_letw (fun w3 => ?_))
  refine z_aload_n 1 dX8_does_20 rfl (z_aload_n 1 dX8_does_21 rfl (z_getI zc8 9 (by decide) rfl gw1116 h0 dX8_does_22 (z_iload_n 3 dX8_does_25 rfl (z_max gw1270 (Nat.le_of_ble_eq_true rfl) (Nat.le_of_ble_eq_true rfl) dX8_does_26 ?_))))
  refine z_putI zc8 9 (by decide) (Or.inl rfl) rfl gw1116 h0 dX8_does_29 (z_letw (fun w4 => ?_))
  refine z_aload_n 1 dX8_does_32 rfl (z_getR zc8 1 (by decide) rfl gw1108 h0 (zW_some hW h0 1 rfl) dX8_does_33 (z_bipush dX8_does_36 zb_7 (z_iconst dX8_does_38 zi_3 (z_iload_n 2 dX8_does_39 rfl (z_imul dX8_does_40 ?_)))))
  refine z_iadd dX8_does_41 (z_iload_n 4 dX8_does_42 rfl ?_)
  refine z_chk (fun c5 => ?_)
  refine z_iast (zW_arr hW h0 1 0 rfl) c5 dX8_does_43 (z_letw (fun w6 => ?_))
  refine z_aload_n 1 dX8_does_44 rfl (z_getR zc8 1 (by decide) rfl gw1108 h0 (zW_some hW h0 1 rfl) dX8_does_45 (z_bipush dX8_does_48 zb_7 (z_iconst dX8_does_50 zi_3 (z_iload_n 2 dX8_does_51 rfl (z_imul dX8_does_52 ?_)))))
  refine z_iadd dX8_does_53 (z_iconst dX8_does_54 zi_2 (z_iadd dX8_does_55 (z_dup2_11 dX8_does_56 rfl rfl ?_)))
  refine z_chk (fun c7 => ?_)
  refine z_iald (zW_arr hW h0 1 0 rfl) c7 dX8_does_57 (z_iload_n 3 dX8_does_58 rfl (z_iload 0 dX8_does_59 rfl (z_isub dX8_does_61 (z_iadd dX8_does_62 ?_))))
  refine z_chk (fun c8 => ?_)
  refine z_iast (zW_arr hW h0 1 0 rfl) c8 dX8_does_63 (z_letw (fun w9 => ?_))
  refine z_aload_n 1 dX8_does_64 rfl (z_getR zc8 1 (by decide) rfl gw1108 h0 (zW_some hW h0 1 rfl) dX8_does_65 (z_bipush dX8_does_68 zb_7 (z_iconst dX8_does_70 zi_3 (z_iload_n 2 dX8_does_71 rfl (z_imul dX8_does_72 ?_)))))
  refine z_iadd dX8_does_73 (z_iconst dX8_does_74 zi_1 (z_iadd dX8_does_75 (z_iload_n 3 dX8_does_76 rfl ?_)))
  refine z_chk (fun c10 => ?_)
  refine z_iast (zW_arr hW h0 1 0 rfl) c10 dX8_does_77 (z_letw (fun w11 => ?_))
  exact z_vret zemW rfl dX8_does_78

theorem m_X8_does {E : ZE} {S : Zs} (hW : zWF S) (w : Zw) (a0 : Nat) (h0 : zObj S a0 8) (a1 : Int32) (a2 : Int32) (a3 : Int32) : ∀ i, f_X8_does S w a0 a1 a2 a3 = some i → zMr E yX8_does cX8_does 5 none 7 0 0 [.ref a0, .int a1, .int a2, .int a3] S w ((emW eU S) i) :=
  fun i hi => z_enter (by decide +kernel) (Nat.le_of_ble_eq_true rfl) (mw_X8_does hW w a0 h0 a1 a2 a3 i hi)
/-! ParkingRobotModel.notes (III)V : W, depth 6 -/
abbrev i_X8_notes : Zm := (yX8_notes.cls, cX8_notes, 5, none, [], yX8_notes.name)
def f_X8_notes_j224 (S : Zs) (w : Zw) (x0 : Nat) (x1 : Int32) (x3 : Int32) : Option (Unit × Zw) :=
  if x3 < 0 then some ((), w) else if zin ((79 : Int32) + x3) (zlen S (zr S x0 1)) = true then zlet (zput w (zr S x0 1) (zix ((79 : Int32) + x3)) x1) fun w32 => some ((), w32) else none
theorem m_X8_notes_j224 {E : ZE} {S : Zs} (hW : zWF S) (w : Zw) (x0 : Nat) (hx0 : zObj S x0 8) (x1 : Int32) (x3 : Int32) : zOk (E, i_X8_notes, 6) 0 0 S w 224 [(0, .ref x0), (1, .int x1), (3, .int x3)] [] (emW eU S) (f_X8_notes_j224 S w x0 x1 x3) := by
  unfold f_X8_notes_j224
  refine z_iload_n 2 dX8_notes_224 rfl ?_
  refine z_if_lt 238 dX8_notes_225 rfl (fun q30 => ?_) (fun q30 => ?_)
  · exact z_vret zemW rfl dX8_notes_238
  · refine z_aload_n 0 dX8_notes_228 rfl (z_getR zc8 1 (by decide) rfl gw1108 hx0 (zW_some hW hx0 1 rfl) dX8_notes_229 (z_bipush dX8_notes_232 zb_79 (z_iload_n 2 dX8_notes_234 rfl (z_iadd dX8_notes_235 (z_iload_n 1 dX8_notes_236 rfl ?_)))))
    refine z_chk (fun c31 => ?_)
    refine z_iast (zW_arr hW hx0 1 0 rfl) c31 dX8_notes_237 (z_letw (fun w32 => ?_))
    exact z_vret zemW rfl dX8_notes_238

def f_X8_notes_j60 (S : Zs) (w : Zw) (x0 : Nat) (x1 : Int32) (x2 : Int32) (x3 : Int32) : Option (Unit × Zw) :=
  if zin (6 : Int32) (zlen S (zr S x0 1)) = true then zlet ((299 : Int32) + ((5 : Int32) * (w (zr S x0 1) (zix (6 : Int32))))) fun z4 => if zin z4 (zlen S (zr S x0 1)) = true then zlet (zput w (zr S x0 1) (zix z4) x1) fun w6 => if zin (z4 + (1 : Int32)) (zlen S (zr S x0 1)) = true then zlet (zput w6 (zr S x0 1) (zix (z4 + (1 : Int32))) x2) fun w8 => if zin (z4 + (2 : Int32)) (zlen S (zr S x0 1)) = true then zlet (zput w8 (zr S x0 1) (zix (z4 + (2 : Int32))) x3) fun w10 => if zin (z4 + (3 : Int32)) (zlen S (zr S x0 1)) = true then zlet (zput w10 (zr S x0 1) (zix (z4 + (3 : Int32))) (w10 x0 8)) fun w12 => if zin (z4 + (4 : Int32)) (zlen S (zr S x0 1)) = true then zlet (zput w12 (zr S x0 1) (zix (z4 + (4 : Int32))) (w12 x0 9)) fun w14 => if zin (6 : Int32) (zlen S (zr S x0 1)) = true then if zin (6 : Int32) (zlen S (zr S x0 1)) = true then zlet (zput w14 (zr S x0 1) (zix (6 : Int32)) ((w14 (zr S x0 1) (zix (6 : Int32))) + (1 : Int32))) fun w17 => if zin (4 : Int32) (zlen S (zr S x0 1)) = true then if zin (4 : Int32) (zlen S (zr S x0 1)) = true then zlet (zput w17 (zr S x0 1) (zix (4 : Int32)) ((w17 (zr S x0 1) (zix (4 : Int32))) + ((w17 x0 9) - (w17 x0 8)))) fun w20 => if zin (5 : Int32) (zlen S (zr S x0 1)) = true then if zin (5 : Int32) (zlen S (zr S x0 1)) = true then zlet (zput w20 (zr S x0 1) (zix (5 : Int32)) (zmax (w20 (zr S x0 1) (zix (5 : Int32))) (w20 x0 9))) fun w23 => if zin (((139 : Int32) + ((4 : Int32) * x1)) + (3 : Int32)) (zlen S (zr S x0 1)) = true then if zin (((139 : Int32) + ((4 : Int32) * x1)) + (3 : Int32)) (zlen S (zr S x0 1)) = true then zlet (zput w23 (zr S x0 1) (zix (((139 : Int32) + ((4 : Int32) * x1)) + (3 : Int32))) ((w23 (zr S x0 1) (zix (((139 : Int32) + ((4 : Int32) * x1)) + (3 : Int32)))) + (1 : Int32))) fun w26 => if zin (((139 : Int32) + ((4 : Int32) * x1)) + (2 : Int32)) (zlen S (zr S x0 1)) = true then zlet (zput w26 (zr S x0 1) (zix (((139 : Int32) + ((4 : Int32) * x1)) + (2 : Int32))) x3) fun w28 => if x2 < 0 then f_X8_notes_j224 S w28 x0 x1 x3  else if zin ((79 : Int32) + x2) (zlen S (zr S x0 1)) = true then zlet (zput w28 (zr S x0 1) (zix ((79 : Int32) + x2)) (-1 : Int32)) fun w34 => f_X8_notes_j224 S w34 x0 x1 x3  else none else none else none else none else none else none else none else none else none else none else none else none else none else none else none else none
theorem m_X8_notes_j60 {E : ZE} {S : Zs} (hW : zWF S) (w : Zw) (x0 : Nat) (hx0 : zObj S x0 8) (x1 : Int32) (x2 : Int32) (x3 : Int32) : zOk (E, i_X8_notes, 6) 0 0 S w 60 [(0, .ref x0), (1, .int x1), (2, .int x2), (3, .int x3)] [] (emW eU S) (f_X8_notes_j60 S w x0 x1 x2 x3) := by
  unfold f_X8_notes_j60
  refine z_sipush dX8_notes_60 zs_299 (z_iconst dX8_notes_63 zi_5 (z_aload_n 0 dX8_notes_64 rfl (z_getR zc8 1 (by decide) rfl gw1108 hx0 (zW_some hW hx0 1 rfl) dX8_notes_65 (z_bipush dX8_notes_68 zb_6 ?_))))
  refine z_chk (fun c3 => ?_)
  refine z_iald (zW_arr hW hx0 1 0 rfl) c3 dX8_notes_70 (z_imul dX8_notes_71 (z_iadd dX8_notes_72 ?_))
  refine z_let (a := ((299 : Int32) + ((5 : Int32) * (w (zr S x0 1) (zix (6 : Int32)))))) (fun z4 => [(0, .ref x0), (1, .int x1), (2, .int x2), (3, .int x3)]) (fun z4 => .int z4 :: []) (fun z4 => ?_)
  refine z_istore (lv' := [(4, .int z4), (0, .ref x0), (1, .int x1), (2, .int x2), (3, .int x3)]) dX8_notes_73 (Nat.le_of_ble_eq_true rfl) rfl (z_aload_n 1 dX8_notes_75 rfl (z_getR zc8 1 (by decide) rfl gw1108 hx0 (zW_some hW hx0 1 rfl) dX8_notes_76 (z_iload 0 dX8_notes_79 rfl (z_iload_n 2 dX8_notes_81 rfl ?_))))
  refine z_chk (fun c5 => ?_)
  refine z_iast (zW_arr hW hx0 1 0 rfl) c5 dX8_notes_82 (z_letw (fun w6 => ?_))
  refine z_aload_n 1 dX8_notes_83 rfl (z_getR zc8 1 (by decide) rfl gw1108 hx0 (zW_some hW hx0 1 rfl) dX8_notes_84 (z_iload 0 dX8_notes_87 rfl (z_iconst dX8_notes_89 zi_1 (z_iadd dX8_notes_90 (z_iload_n 3 dX8_notes_91 rfl ?_)))))
  refine z_chk (fun c7 => ?_)
  refine z_iast (zW_arr hW hx0 1 0 rfl) c7 dX8_notes_92 (z_letw (fun w8 => ?_))
  refine z_aload_n 1 dX8_notes_93 rfl (z_getR zc8 1 (by decide) rfl gw1108 hx0 (zW_some hW hx0 1 rfl) dX8_notes_94 (z_iload 0 dX8_notes_97 rfl (z_iconst dX8_notes_99 zi_2 (z_iadd dX8_notes_100 (z_iload_n 4 dX8_notes_101 rfl ?_)))))
  refine z_chk (fun c9 => ?_)
  refine z_iast (zW_arr hW hx0 1 0 rfl) c9 dX8_notes_102 (z_letw (fun w10 => ?_))
  refine z_aload_n 1 dX8_notes_103 rfl (z_getR zc8 1 (by decide) rfl gw1108 hx0 (zW_some hW hx0 1 rfl) dX8_notes_104 (z_iload 0 dX8_notes_107 rfl (z_iconst dX8_notes_109 zi_3 (z_iadd dX8_notes_110 (z_aload_n 1 dX8_notes_111 rfl ?_)))))
  refine z_getI zc8 8 (by decide) rfl gw1115 hx0 dX8_notes_112 ?_
  refine z_chk (fun c11 => ?_)
  refine z_iast (zW_arr hW hx0 1 0 rfl) c11 dX8_notes_115 (z_letw (fun w12 => ?_))
  refine z_aload_n 1 dX8_notes_116 rfl (z_getR zc8 1 (by decide) rfl gw1108 hx0 (zW_some hW hx0 1 rfl) dX8_notes_117 (z_iload 0 dX8_notes_120 rfl (z_iconst dX8_notes_122 zi_4 (z_iadd dX8_notes_123 (z_aload_n 1 dX8_notes_124 rfl ?_)))))
  refine z_getI zc8 9 (by decide) rfl gw1116 hx0 dX8_notes_125 ?_
  refine z_chk (fun c13 => ?_)
  refine z_iast (zW_arr hW hx0 1 0 rfl) c13 dX8_notes_128 (z_letw (fun w14 => ?_))
  refine z_aload_n 1 dX8_notes_129 rfl (z_getR zc8 1 (by decide) rfl gw1108 hx0 (zW_some hW hx0 1 rfl) dX8_notes_130 (z_bipush dX8_notes_133 zb_6 (z_dup2_11 dX8_notes_135 rfl rfl ?_)))
  refine z_chk (fun c15 => ?_)
  refine z_iald (zW_arr hW hx0 1 0 rfl) c15 dX8_notes_136 (z_iconst dX8_notes_137 zi_1 (z_iadd dX8_notes_138 ?_))
  refine z_chk (fun c16 => ?_)
  refine z_iast (zW_arr hW hx0 1 0 rfl) c16 dX8_notes_139 (z_letw (fun w17 => ?_))
  refine z_aload_n 1 dX8_notes_140 rfl (z_getR zc8 1 (by decide) rfl gw1108 hx0 (zW_some hW hx0 1 rfl) dX8_notes_141 (z_iconst dX8_notes_144 zi_4 (z_dup2_11 dX8_notes_145 rfl rfl ?_)))
  refine z_chk (fun c18 => ?_)
  refine z_iald (zW_arr hW hx0 1 0 rfl) c18 dX8_notes_146 (z_aload_n 1 dX8_notes_147 rfl (z_getI zc8 9 (by decide) rfl gw1116 hx0 dX8_notes_148 (z_aload_n 1 dX8_notes_151 rfl (z_getI zc8 8 (by decide) rfl gw1115 hx0 dX8_notes_152 (z_isub dX8_notes_155 ?_)))))
  refine z_iadd dX8_notes_156 ?_
  refine z_chk (fun c19 => ?_)
  refine z_iast (zW_arr hW hx0 1 0 rfl) c19 dX8_notes_157 (z_letw (fun w20 => ?_))
  refine z_aload_n 1 dX8_notes_158 rfl (z_getR zc8 1 (by decide) rfl gw1108 hx0 (zW_some hW hx0 1 rfl) dX8_notes_159 (z_iconst dX8_notes_162 zi_5 (z_aload_n 1 dX8_notes_163 rfl (z_getR zc8 1 (by decide) rfl gw1108 hx0 (zW_some hW hx0 1 rfl) dX8_notes_164 (z_iconst dX8_notes_167 zi_5 ?_)))))
  refine z_chk (fun c21 => ?_)
  refine z_iald (zW_arr hW hx0 1 0 rfl) c21 dX8_notes_168 (z_aload_n 1 dX8_notes_169 rfl (z_getI zc8 9 (by decide) rfl gw1116 hx0 dX8_notes_170 (z_max gw1270 (Nat.le_of_ble_eq_true rfl) (Nat.le_of_ble_eq_true rfl) dX8_notes_173 ?_)))
  refine z_chk (fun c22 => ?_)
  refine z_iast (zW_arr hW hx0 1 0 rfl) c22 dX8_notes_176 (z_letw (fun w23 => ?_))
  refine z_aload_n 1 dX8_notes_177 rfl (z_getR zc8 1 (by decide) rfl gw1108 hx0 (zW_some hW hx0 1 rfl) dX8_notes_178 (z_sipush dX8_notes_181 zs_139 (z_iconst dX8_notes_184 zi_4 (z_iload_n 2 dX8_notes_185 rfl (z_imul dX8_notes_186 ?_)))))
  refine z_iadd dX8_notes_187 (z_iconst dX8_notes_188 zi_3 (z_iadd dX8_notes_189 (z_dup2_11 dX8_notes_190 rfl rfl ?_)))
  refine z_chk (fun c24 => ?_)
  refine z_iald (zW_arr hW hx0 1 0 rfl) c24 dX8_notes_191 (z_iconst dX8_notes_192 zi_1 (z_iadd dX8_notes_193 ?_))
  refine z_chk (fun c25 => ?_)
  refine z_iast (zW_arr hW hx0 1 0 rfl) c25 dX8_notes_194 (z_letw (fun w26 => ?_))
  refine z_aload_n 1 dX8_notes_195 rfl (z_getR zc8 1 (by decide) rfl gw1108 hx0 (zW_some hW hx0 1 rfl) dX8_notes_196 (z_sipush dX8_notes_199 zs_139 (z_iconst dX8_notes_202 zi_4 (z_iload_n 2 dX8_notes_203 rfl (z_imul dX8_notes_204 ?_)))))
  refine z_iadd dX8_notes_205 (z_iconst dX8_notes_206 zi_2 (z_iadd dX8_notes_207 (z_iload_n 4 dX8_notes_208 rfl ?_)))
  refine z_chk (fun c27 => ?_)
  refine z_iast (zW_arr hW hx0 1 0 rfl) c27 dX8_notes_209 (z_letw (fun w28 => ?_))
  refine z_iload_n 3 dX8_notes_210 rfl ?_
  refine z_if_lt 224 dX8_notes_211 rfl (fun q29 => ?_) (fun q29 => ?_)
  · refine z_sub (lv' := [(0, .ref x0), (1, .int x1), (3, .int x3)]) [1, 2, 4] rfl ?_
    refine z_pc (pc' := 224) rfl ?_
    exact m_X8_notes_j224 hW w28 x0 hx0 x1 x3 
  · refine z_aload_n 1 dX8_notes_214 rfl (z_getR zc8 1 (by decide) rfl gw1108 hx0 (zW_some hW hx0 1 rfl) dX8_notes_215 (z_bipush dX8_notes_218 zb_79 (z_iload_n 3 dX8_notes_220 rfl (z_iadd dX8_notes_221 (z_iconst dX8_notes_222 zi_m1 ?_)))))
    refine z_chk (fun c33 => ?_)
    refine z_iast (zW_arr hW hx0 1 0 rfl) c33 dX8_notes_223 (z_letw (fun w34 => ?_))
    refine z_sub (lv' := [(0, .ref x0), (1, .int x1), (3, .int x3)]) [1, 2, 4] rfl ?_
    refine z_pc (pc' := 224) rfl ?_
    exact m_X8_notes_j224 hW w34 x0 hx0 x1 x3 

def f_X8_notes_b17 (S : Zs) (x0 : Nat) (x1 : Int32) (x2 : Int32) (x3 : Int32) (k : (Int32 × Zw) → Option (Unit × Zw)) (x4 : Int32) (w : Zw) : Option (Unit × Zw) :=
  if (399 : Int32) ≤ (x4 + (5 : Int32)) then (if zin (6 : Int32) (zlen S (zr S x0 1)) = true then if zin (6 : Int32) (zlen S (zr S x0 1)) = true then zlet (zput w (zr S x0 1) (zix (6 : Int32)) ((w (zr S x0 1) (zix (6 : Int32))) - (1 : Int32))) fun w38 => f_X8_notes_j60 S w38 x0 x1 x2 x3  else none else none) else if zin (x4 + (5 : Int32)) (zlen S (zr S x0 1)) = true then if zin x4 (zlen S (zr S x0 1)) = true then zlet (zput w (zr S x0 1) (zix x4) (w (zr S x0 1) (zix (x4 + (5 : Int32))))) fun w41 => k ((x4 + (1 : Int32)), w41) else none else none
def f_X8_notes_l17 (S : Zs) (x0 : Nat) (x1 : Int32) (x2 : Int32) (x3 : Int32) (a : Int32 × Zw) : Option (Unit × Zw) :=
  zlp (fun k a => f_X8_notes_b17 S x0 x1 x2 x3 k a.1 a.2) zFU a
theorem m_X8_notes_l17 {E : ZE} {S : Zs} (hW : zWF S) (x0 : Nat) (hx0 : zObj S x0 8) (x1 : Int32) (x2 : Int32) (x3 : Int32) : ∀ a : Int32 × Zw, zOk (E, i_X8_notes, 6) 0 0 S a.2 17 [(0, .ref x0), (1, .int x1), (2, .int x2), (3, .int x3), (4, .int a.1)] [] (emW eU S) (f_X8_notes_l17 S x0 x1 x2 x3 a) := by
  intro a
  refine z_lp (P := fun _ => True) (W9 := fun a : Int32 × Zw => a.2) (L9 := fun a : Int32 × Zw => [(0, .ref x0), (1, .int x1), (2, .int x2), (3, .int x3), (4, .int a.1)]) (T9 := fun _ => []) (fun k hk9 a _ => ?_) zFU a trivial
  have hk : ∀ a : Int32 × Zw, zOk (E, i_X8_notes, 6) 0 0 S a.2 17 [(0, .ref x0), (1, .int x1), (2, .int x2), (3, .int x3), (4, .int a.1)] [] (emW eU S) (k a) := fun a => hk9 a trivial
  clear hk9
  obtain ⟨x4, w⟩ := a
  show zOk (E, i_X8_notes, 6) 0 0 S w 17 [(0, .ref x0), (1, .int x1), (2, .int x2), (3, .int x3), (4, .int x4)] [] (emW eU S) (f_X8_notes_b17 S x0 x1 x2 x3 k x4 w)
  unfold f_X8_notes_b17
  refine z_iload 4 dX8_notes_17 rfl (z_iconst dX8_notes_19 zi_5 (z_iadd dX8_notes_20 (z_sipush dX8_notes_21 zs_399 ?_)))
  refine z_icmp_ge 49 dX8_notes_24 rfl (fun q35 => ?_) (fun q35 => ?_)
  · refine z_aload_n 0 dX8_notes_49 rfl (z_getR zc8 1 (by decide) rfl gw1108 hx0 (zW_some hW hx0 1 rfl) dX8_notes_50 (z_bipush dX8_notes_53 zb_6 (z_dup2_11 dX8_notes_55 rfl rfl ?_)))
    refine z_chk (fun c36 => ?_)
    refine z_iald (zW_arr hW hx0 1 0 rfl) c36 dX8_notes_56 (z_iconst dX8_notes_57 zi_1 (z_isub dX8_notes_58 ?_))
    refine z_chk (fun c37 => ?_)
    refine z_iast (zW_arr hW hx0 1 0 rfl) c37 dX8_notes_59 (z_letw (fun w38 => ?_))
    refine z_sub (lv' := [(0, .ref x0), (1, .int x1), (2, .int x2), (3, .int x3)]) [0, 1, 2, 3] rfl ?_
    refine z_pc (pc' := 60) rfl ?_
    exact m_X8_notes_j60 hW w38 x0 hx0 x1 x2 x3 
  · refine z_aload_n 0 dX8_notes_27 rfl (z_getR zc8 1 (by decide) rfl gw1108 hx0 (zW_some hW hx0 1 rfl) dX8_notes_28 (z_iload 4 dX8_notes_31 rfl (z_aload_n 0 dX8_notes_33 rfl (z_getR zc8 1 (by decide) rfl gw1108 hx0 (zW_some hW hx0 1 rfl) dX8_notes_34 (z_iload 4 dX8_notes_37 rfl ?_)))))
    refine z_iconst dX8_notes_39 zi_5 (z_iadd dX8_notes_40 ?_)
    refine z_chk (fun c39 => ?_)
    refine z_iald (zW_arr hW hx0 1 0 rfl) c39 dX8_notes_41 ?_
    refine z_chk (fun c40 => ?_)
    refine z_iast (zW_arr hW hx0 1 0 rfl) c40 dX8_notes_42 (z_letw (fun w41 => ?_))
    refine z_iinc (v := (x4 + (1 : Int32))) (lv' := [(4, .int (x4 + (1 : Int32))), (0, .ref x0), (1, .int x1), (2, .int x2), (3, .int x3)]) 4 dX8_notes_43 rfl (zi_inc _ zi_1) (Nat.le_of_ble_eq_true rfl) rfl (z_goto 17 dX8_notes_46 rfl ?_)
    refine z_sub (lv' := [(0, .ref x0), (1, .int x1), (2, .int x2), (3, .int x3), (4, .int (x4 + (1 : Int32)))]) [1, 2, 3, 4, 0] rfl ?_
    refine z_pc (pc' := 17) rfl ?_
    exact hk ((x4 + (1 : Int32)), w41)

def f_X8_notes (S : Zs) (w : Zw) (a0 : Nat) (a1 : Int32) (a2 : Int32) (a3 : Int32) : Option (Unit × Zw) :=
  if zin (6 : Int32) (zlen S (zr S a0 1)) = true then if (w (zr S a0 1) (zix (6 : Int32))) = (20 : Int32) then f_X8_notes_l17 S a0 a1 a2 a3 ((299 : Int32), w) else f_X8_notes_j60 S w a0 a1 a2 a3  else none
theorem mw_X8_notes {E : ZE} {S : Zs} (hW : zWF S) (w : Zw) (a0 : Nat) (h0 : zObj S a0 8) (a1 : Int32) (a2 : Int32) (a3 : Int32) : zOk (E, i_X8_notes, 6) 0 0 S w 0 [(0, .ref a0), (1, .int a1), (2, .int a2), (3, .int a3)] [] (emW eU S) (f_X8_notes S w a0 a1 a2 a3) := by
  unfold f_X8_notes
  refine z_aload_n 0 dX8_notes_0 rfl (z_getR zc8 1 (by decide) rfl gw1108 h0 (zW_some hW h0 1 rfl) dX8_notes_1 (z_bipush dX8_notes_4 zb_6 ?_))
  refine z_chk (fun c1 => ?_)
  refine z_iald (zW_arr hW h0 1 0 rfl) c1 dX8_notes_6 (z_bipush dX8_notes_7 zb_20 ?_)
  refine z_icmp_ne 60 dX8_notes_9 rfl (fun q2 => ?_) (fun q2 => ?_)
  · refine z_pc (pc' := 60) rfl ?_
    exact m_X8_notes_j60 hW w a0 h0 a1 a2 a3 
  · refine z_sipush dX8_notes_12 zs_299 (z_istore (lv' := [(4, .int (299 : Int32)), (0, .ref a0), (1, .int a1), (2, .int a2), (3, .int a3)]) dX8_notes_15 (Nat.le_of_ble_eq_true rfl) rfl ?_)
    refine z_sub (lv' := [(0, .ref a0), (1, .int a1), (2, .int a2), (3, .int a3), (4, .int (299 : Int32))]) [1, 2, 3, 4, 0] rfl ?_
    refine z_pc (pc' := 17) rfl ?_
    exact m_X8_notes_l17 hW a0 h0 a1 a2 a3 ((299 : Int32), w)

theorem m_X8_notes {E : ZE} {S : Zs} (hW : zWF S) (w : Zw) (a0 : Nat) (h0 : zObj S a0 8) (a1 : Int32) (a2 : Int32) (a3 : Int32) : ∀ i, f_X8_notes S w a0 a1 a2 a3 = some i → zMr E yX8_notes cX8_notes 5 none 6 0 0 [.ref a0, .int a1, .int a2, .int a3] S w ((emW eU S) i) :=
  fun i hi => z_enter (by decide +kernel) (Nat.le_of_ble_eq_true rfl) (mw_X8_notes hW w a0 h0 a1 a2 a3 i hi)
end ZFN
