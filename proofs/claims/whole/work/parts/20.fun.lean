section ZFN
/-! ParkingRobot.levelOf (I)I : T, depth 0 -/
abbrev i_X7_levelOf : Zm := (yX7_levelOf.cls, cX7_levelOf, 1, (some .int), [], yX7_levelOf.name)
def f_X7_levelOf (a0 : Int32) : Int32 :=
  (a0 / (20 : Int32))
theorem mw_X7_levelOf {E : ZE} {S : Zs} (hW : zWF S) (w : Zw) (a0 : Int32) : zOk (E, i_X7_levelOf, 0) 0 0 S w 0 [(0, .int a0)] [] (emP eI S w) (some (f_X7_levelOf a0)) := by
  unfold f_X7_levelOf
  refine z_iload_n 0 dX7_levelOf_0 rfl (z_bipush dX7_levelOf_1 zb_20 (z_idiv dX7_levelOf_3 (by decide) ?_))
  exact z_iret zemP rfl dX7_levelOf_4

theorem m_X7_levelOf {E : ZE} {S : Zs} (hW : zWF S) (w : Zw) (a0 : Int32) : zMr E yX7_levelOf cX7_levelOf 1 ((some .int)) 0 0 0 [.int a0] S w (.inl (eI (f_X7_levelOf a0)), S, w) :=
  z_enter (by decide +kernel) (Nat.le_of_ble_eq_true rfl) (mw_X7_levelOf hW w a0 _ rfl)
/-! ParkingRobot.columnOf (I)I : T, depth 0 -/
abbrev i_X7_columnOf : Zm := (yX7_columnOf.cls, cX7_columnOf, 1, (some .int), [], yX7_columnOf.name)
def f_X7_columnOf (a0 : Int32) : Int32 :=
  ((zrem a0 (10 : Int32)) / (2 : Int32))
theorem mw_X7_columnOf {E : ZE} {S : Zs} (hW : zWF S) (w : Zw) (a0 : Int32) : zOk (E, i_X7_columnOf, 0) 0 0 S w 0 [(0, .int a0)] [] (emP eI S w) (some (f_X7_columnOf a0)) := by
  unfold f_X7_columnOf
  refine z_iload_n 0 dX7_columnOf_0 rfl (z_bipush dX7_columnOf_1 zb_10 (z_rem dX7_columnOf_3 (by decide) (z_iconst dX7_columnOf_4 zi_2 (z_idiv dX7_columnOf_5 (by decide) ?_))))
  exact z_iret zemP rfl dX7_columnOf_6

theorem m_X7_columnOf {E : ZE} {S : Zs} (hW : zWF S) (w : Zw) (a0 : Int32) : zMr E yX7_columnOf cX7_columnOf 1 ((some .int)) 0 0 0 [.int a0] S w (.inl (eI (f_X7_columnOf a0)), S, w) :=
  z_enter (by decide +kernel) (Nat.le_of_ble_eq_true rfl) (mw_X7_columnOf hW w a0 _ rfl)
/-! ParkingRobot.depthOf (I)I : T, depth 0 -/
abbrev i_X7_depthOf : Zm := (yX7_depthOf.cls, cX7_depthOf, 1, (some .int), [], yX7_depthOf.name)
def f_X7_depthOf (a0 : Int32) : Int32 :=
  (zrem a0 (2 : Int32))
theorem mw_X7_depthOf {E : ZE} {S : Zs} (hW : zWF S) (w : Zw) (a0 : Int32) : zOk (E, i_X7_depthOf, 0) 0 0 S w 0 [(0, .int a0)] [] (emP eI S w) (some (f_X7_depthOf a0)) := by
  unfold f_X7_depthOf
  refine z_iload_n 0 dX7_depthOf_0 rfl (z_iconst dX7_depthOf_1 zi_2 (z_rem dX7_depthOf_2 (by decide) ?_))
  exact z_iret zemP rfl dX7_depthOf_3

theorem m_X7_depthOf {E : ZE} {S : Zs} (hW : zWF S) (w : Zw) (a0 : Int32) : zMr E yX7_depthOf cX7_depthOf 1 ((some .int)) 0 0 0 [.int a0] S w (.inl (eI (f_X7_depthOf a0)), S, w) :=
  z_enter (by decide +kernel) (Nat.le_of_ble_eq_true rfl) (mw_X7_depthOf hW w a0 _ rfl)
/-! ParkingRobot.isWide (I)Z : P, depth 1 -/
abbrev i_X7_isWide : Zm := (yX7_isWide.cls, cX7_isWide, 1, (some .boolean), [], yX7_isWide.name)
def f_X7_isWide (a0 : Int32) : Option (Int32) :=
  if (zrem (f_X7_columnOf a0) (2 : Int32)) = 0 then some (1 : Int32) else some (0 : Int32)
theorem mw_X7_isWide {E : ZE} {S : Zs} (hW : zWF S) (w : Zw) (a0 : Int32) : zOk (E, i_X7_isWide, 1) 0 0 S w 0 [(0, .int a0)] [] (emP eI S w) (f_X7_isWide a0) := by
  unfold f_X7_isWide
  refine z_iload_n 0 dX7_isWide_0 rfl ?_
  refine z_callS (kc' := 0) (ks' := 0) (v := (some (.int (f_X7_columnOf a0)))) (S1 := S) (w1 := w) (st := []) [.int a0] (m_X7_columnOf hW w a0) zy_X7_columnOf gw312 gw311 (Nat.le_of_ble_eq_true rfl) (Nat.le_of_ble_eq_true rfl) (Nat.le_of_ble_eq_true rfl) (Nat.le_of_ble_eq_true rfl) (fun q => ⟨q, rfl⟩) rfl dX7_isWide_1 (z_at 4 _ [.int (f_X7_columnOf a0)] rfl rfl rfl ?_)
  refine z_iconst dX7_isWide_4 zi_2 (z_rem dX7_isWide_5 (by decide) ?_)
  refine z_if_ne 13 dX7_isWide_6 rfl (fun q1 => ?_) (fun q1 => ?_)
  · refine z_iconst dX7_isWide_13 zi_0 ?_
    exact z_zret zemP rfl rfl dX7_isWide_14
  · refine z_iconst dX7_isWide_9 zi_1 (z_goto 14 dX7_isWide_10 rfl ?_)
    exact z_zret zemP rfl rfl dX7_isWide_14

theorem m_X7_isWide {E : ZE} {S : Zs} (hW : zWF S) (w : Zw) (a0 : Int32) : ∀ i, f_X7_isWide a0 = some i → zMr E yX7_isWide cX7_isWide 1 ((some .boolean)) 1 0 0 [.int a0] S w ((emP eI S w) i) :=
  fun i hi => z_enter (by decide +kernel) (Nat.le_of_ble_eq_true rfl) (mw_X7_isWide hW w a0 i hi)
/-! ParkingRobot$Garage.carBefore (I)I : P, depth 1 -/
abbrev i_X1_carBefore : Zm := (yX1_carBefore.cls, cX1_carBefore, 2, (some .int), [], yX1_carBefore.name)
def f_X1_carBefore (S : Zs) (w : Zw) (a0 : Nat) (a1 : Int32) : Option (Int32) :=
  if (f_X7_depthOf a1) = (1 : Int32) then (if zin (a1 - (1 : Int32)) (zlen S (zr S a0 1)) = true then some (w (zr S a0 1) (zix (a1 - (1 : Int32)))) else none) else some (-1 : Int32)
theorem mw_X1_carBefore {E : ZE} {S : Zs} (hW : zWF S) (w : Zw) (a0 : Nat) (h0 : zObj S a0 1) (a1 : Int32) : zOk (E, i_X1_carBefore, 1) 0 0 S w 0 [(0, .ref a0), (1, .int a1)] [] (emP eI S w) (f_X1_carBefore S w a0 a1) := by
  unfold f_X1_carBefore
  refine z_iload_n 1 dX1_carBefore_0 rfl ?_
  refine z_callSN (kc' := 0) (ks' := 0) (v := (some (.int (f_X7_depthOf a1)))) (S1 := S) (w1 := w) (st := []) [.int a1] (m_X7_depthOf hW w a1) zy_X7_depthOf gw290 zn_m2 (Nat.le_of_ble_eq_true rfl) (Nat.le_of_ble_eq_true rfl) (Nat.le_of_ble_eq_true rfl) (Nat.le_of_ble_eq_true rfl) (fun q => ⟨q, rfl⟩) rfl dX1_carBefore_1 (z_at 4 _ [.int (f_X7_depthOf a1)] rfl rfl rfl ?_)
  refine z_iconst dX1_carBefore_4 zi_1 ?_
  refine z_icmp_ne 19 dX1_carBefore_5 rfl (fun q1 => ?_) (fun q1 => ?_)
  · refine z_iconst dX1_carBefore_19 zi_m1 ?_
    exact z_iret zemP rfl dX1_carBefore_20
  · refine z_aload_n 0 dX1_carBefore_8 rfl (z_getR zc1 1 (by decide) rfl gw102 h0 (zW_some hW h0 1 rfl) dX1_carBefore_9 (z_iload_n 1 dX1_carBefore_12 rfl (z_iconst dX1_carBefore_13 zi_1 (z_isub dX1_carBefore_14 ?_))))
    refine z_chk (fun c2 => ?_)
    refine z_iald (zW_arr hW h0 1 0 rfl) c2 dX1_carBefore_15 (z_goto 20 dX1_carBefore_16 rfl ?_)
    exact z_iret zemP rfl dX1_carBefore_20

theorem m_X1_carBefore {E : ZE} {S : Zs} (hW : zWF S) (w : Zw) (a0 : Nat) (h0 : zObj S a0 1) (a1 : Int32) : ∀ i, f_X1_carBefore S w a0 a1 = some i → zMr E yX1_carBefore cX1_carBefore 2 ((some .int)) 1 0 0 [.ref a0, .int a1] S w ((emP eI S w) i) :=
  fun i hi => z_enter (by decide +kernel) (Nat.le_of_ble_eq_true rfl) (mw_X1_carBefore hW w a0 h0 a1 i hi)
/-! ParkingRobot$Garage.countClosed ()I : P, depth 0 -/
abbrev i_X1_countClosed : Zm := (yX1_countClosed.cls, cX1_countClosed, 3, (some .int), [], yX1_countClosed.name)
def f_X1_countClosed_b4 (S : Zs) (w : Zw) (x0 : Nat) (k : (Int32 × Int32) → Option (Int32)) (x1 : Int32) (x2 : Int32) : Option (Int32) :=
  if (60 : Int32) ≤ x2 then some x1 else if zin x2 (zlen S (zr S x0 0)) = true then if (w (zr S x0 0) (zix x2)) = 0 then k (x1, (x2 + (1 : Int32))) else k ((x1 + (1 : Int32)), (x2 + (1 : Int32))) else none
def f_X1_countClosed_l4 (S : Zs) (w : Zw) (x0 : Nat) (a : Int32 × Int32) : Option (Int32) :=
  zlp (fun k a => f_X1_countClosed_b4 S w x0 k a.1 a.2) zFU a
theorem m_X1_countClosed_l4 {E : ZE} {S : Zs} (hW : zWF S) (w : Zw) (x0 : Nat) (hx0 : zObj S x0 1) : ∀ a : Int32 × Int32, zOk (E, i_X1_countClosed, 0) 0 0 S w 4 [(0, .ref x0), (1, .int a.1), (2, .int a.2)] [] (emP eI S w) (f_X1_countClosed_l4 S w x0 a) := by
  intro a
  refine z_lp (P := fun _ => True) (W9 := fun a : Int32 × Int32 => w) (L9 := fun a : Int32 × Int32 => [(0, .ref x0), (1, .int a.1), (2, .int a.2)]) (T9 := fun _ => []) (fun k hk9 a _ => ?_) zFU a trivial
  have hk : ∀ a : Int32 × Int32, zOk (E, i_X1_countClosed, 0) 0 0 S w 4 [(0, .ref x0), (1, .int a.1), (2, .int a.2)] [] (emP eI S w) (k a) := fun a => hk9 a trivial
  clear hk9
  obtain ⟨x1, x2⟩ := a
  show zOk (E, i_X1_countClosed, 0) 0 0 S w 4 [(0, .ref x0), (1, .int x1), (2, .int x2)] [] (emP eI S w) (f_X1_countClosed_b4 S w x0 k x1 x2)
  unfold f_X1_countClosed_b4
  refine z_iload_n 2 dX1_countClosed_4 rfl (z_bipush dX1_countClosed_5 zb_60 ?_)
  refine z_icmp_ge 28 dX1_countClosed_7 rfl (fun q1 => ?_) (fun q1 => ?_)
  · refine z_iload_n 1 dX1_countClosed_28 rfl ?_
    exact z_iret zemP rfl dX1_countClosed_29
  · refine z_aload_n 0 dX1_countClosed_10 rfl (z_getR zc1 0 (by decide) rfl gw101 hx0 (zW_some hW hx0 0 rfl) dX1_countClosed_11 (z_iload_n 2 dX1_countClosed_14 rfl ?_))
    refine z_chk (fun c2 => ?_)
    refine z_zald (zW_arr hW hx0 0 1 rfl) c2 dX1_countClosed_15 ?_
    refine z_if_eq 22 dX1_countClosed_16 rfl (fun q3 => ?_) (fun q3 => ?_)
    · refine z_iinc (v := (x2 + (1 : Int32))) (lv' := [(2, .int (x2 + (1 : Int32))), (0, .ref x0), (1, .int x1)]) 2 dX1_countClosed_22 rfl (zi_inc _ zi_1) (Nat.le_of_ble_eq_true rfl) rfl (z_goto 4 dX1_countClosed_25 rfl ?_)
      refine z_sub (lv' := [(0, .ref x0), (1, .int x1), (2, .int (x2 + (1 : Int32)))]) [1, 2, 0] rfl ?_
      refine z_pc (pc' := 4) rfl ?_
      exact hk (x1, (x2 + (1 : Int32)))
    · refine z_iinc (v := (x1 + (1 : Int32))) (lv' := [(1, .int (x1 + (1 : Int32))), (0, .ref x0), (2, .int x2)]) 1 dX1_countClosed_19 rfl (zi_inc _ zi_1) (Nat.le_of_ble_eq_true rfl) rfl (z_iinc (v := (x2 + (1 : Int32))) (lv' := [(2, .int (x2 + (1 : Int32))), (1, .int (x1 + (1 : Int32))), (0, .ref x0)]) 2 dX1_countClosed_22 rfl (zi_inc _ zi_1) (Nat.le_of_ble_eq_true rfl) rfl (z_goto 4 dX1_countClosed_25 rfl ?_))
      refine z_sub (lv' := [(0, .ref x0), (1, .int (x1 + (1 : Int32))), (2, .int (x2 + (1 : Int32)))]) [2, 1, 0] rfl ?_
      refine z_pc (pc' := 4) rfl ?_
      exact hk ((x1 + (1 : Int32)), (x2 + (1 : Int32)))

def f_X1_countClosed (S : Zs) (w : Zw) (a0 : Nat) : Option (Int32) :=
  f_X1_countClosed_l4 S w a0 ((0 : Int32), (0 : Int32))
theorem mw_X1_countClosed {E : ZE} {S : Zs} (hW : zWF S) (w : Zw) (a0 : Nat) (h0 : zObj S a0 1) : zOk (E, i_X1_countClosed, 0) 0 0 S w 0 [(0, .ref a0)] [] (emP eI S w) (f_X1_countClosed S w a0) := by
  unfold f_X1_countClosed
  refine z_iconst dX1_countClosed_0 zi_0 (z_istore_n (lv' := [(1, .int (0 : Int32)), (0, .ref a0)]) dX1_countClosed_1 (Nat.le_of_ble_eq_true rfl) rfl (z_iconst dX1_countClosed_2 zi_0 (z_istore_n (lv' := [(2, .int (0 : Int32)), (1, .int (0 : Int32)), (0, .ref a0)]) dX1_countClosed_3 (Nat.le_of_ble_eq_true rfl) rfl ?_)))
  refine z_sub (lv' := [(0, .ref a0), (1, .int (0 : Int32)), (2, .int (0 : Int32))]) [2, 1, 0] rfl ?_
  refine z_pc (pc' := 4) rfl ?_
  exact m_X1_countClosed_l4 hW w a0 h0 ((0 : Int32), (0 : Int32))

theorem m_X1_countClosed {E : ZE} {S : Zs} (hW : zWF S) (w : Zw) (a0 : Nat) (h0 : zObj S a0 1) : ∀ i, f_X1_countClosed S w a0 = some i → zMr E yX1_countClosed cX1_countClosed 3 ((some .int)) 0 0 0 [.ref a0] S w ((emP eI S w) i) :=
  fun i hi => z_enter (by decide +kernel) (Nat.le_of_ble_eq_true rfl) (mw_X1_countClosed hW w a0 h0 i hi)
/-! ParkingRobot$Garage.isStored (I)Z : P, depth 0 -/
abbrev i_X1_isStored : Zm := (yX1_isStored.cls, cX1_isStored, 2, (some .boolean), [], yX1_isStored.name)
def f_X1_isStored (S : Zs) (w : Zw) (a0 : Nat) (a1 : Int32) : Option (Int32) :=
  if a1 < 0 then some (0 : Int32) else if (w a0 8) ≤ a1 then some (0 : Int32) else if zin a1 (zlen S (zr S a0 4)) = true then if (w (zr S a0 4) (zix a1)) = (-1 : Int32) then some (0 : Int32) else some (1 : Int32) else none
theorem mw_X1_isStored {E : ZE} {S : Zs} (hW : zWF S) (w : Zw) (a0 : Nat) (h0 : zObj S a0 1) (a1 : Int32) : zOk (E, i_X1_isStored, 0) 0 0 S w 0 [(0, .ref a0), (1, .int a1)] [] (emP eI S w) (f_X1_isStored S w a0 a1) := by
  unfold f_X1_isStored
  refine z_iload_n 1 dX1_isStored_0 rfl ?_
  refine z_if_lt 26 dX1_isStored_1 rfl (fun q1 => ?_) (fun q1 => ?_)
  · refine z_iconst dX1_isStored_26 zi_0 ?_
    exact z_zret zemP rfl rfl dX1_isStored_27
  · refine z_iload_n 1 dX1_isStored_4 rfl (z_aload_n 0 dX1_isStored_5 rfl (z_getI zc1 8 (by decide) rfl gw109 h0 dX1_isStored_6 ?_))
    refine z_icmp_ge 26 dX1_isStored_9 rfl (fun q2 => ?_) (fun q2 => ?_)
    · refine z_iconst dX1_isStored_26 zi_0 ?_
      exact z_zret zemP rfl rfl dX1_isStored_27
    · refine z_aload_n 0 dX1_isStored_12 rfl (z_getR zc1 4 (by decide) rfl gw105 h0 (zW_some hW h0 4 rfl) dX1_isStored_13 (z_iload_n 1 dX1_isStored_16 rfl ?_))
      refine z_chk (fun c3 => ?_)
      refine z_iald (zW_arr hW h0 4 0 rfl) c3 dX1_isStored_17 (z_iconst dX1_isStored_18 zi_m1 ?_)
      refine z_icmp_eq 26 dX1_isStored_19 rfl (fun q4 => ?_) (fun q4 => ?_)
      · refine z_iconst dX1_isStored_26 zi_0 ?_
        exact z_zret zemP rfl rfl dX1_isStored_27
      · refine z_iconst dX1_isStored_22 zi_1 (z_goto 27 dX1_isStored_23 rfl ?_)
        exact z_zret zemP rfl rfl dX1_isStored_27

theorem m_X1_isStored {E : ZE} {S : Zs} (hW : zWF S) (w : Zw) (a0 : Nat) (h0 : zObj S a0 1) (a1 : Int32) : ∀ i, f_X1_isStored S w a0 a1 = some i → zMr E yX1_isStored cX1_isStored 2 ((some .boolean)) 0 0 0 [.ref a0, .int a1] S w ((emP eI S w) i) :=
  fun i hi => z_enter (by decide +kernel) (Nat.le_of_ble_eq_true rfl) (mw_X1_isStored hW w a0 h0 a1 i hi)
/-! ParkingRobot$Garage.isBad (II)Z : P, depth 1 -/
abbrev i_X1_isBad : Zm := (yX1_isBad.cls, cX1_isBad, 3, (some .boolean), [], yX1_isBad.name)
def f_X1_isBad (S : Zs) (w : Zw) (a0 : Nat) (a1 : Int32) (a2 : Int32) : Option (Int32) :=
  if (f_X7_depthOf a1) = (1 : Int32) then some (0 : Int32) else if zin (a1 + (1 : Int32)) (zlen S (zr S a0 1)) = true then if (w (zr S a0 1) (zix (a1 + (1 : Int32)))) = (-1 : Int32) then some (0 : Int32) else if zin (a1 + (1 : Int32)) (zlen S (zr S a0 1)) = true then if zin (w (zr S a0 1) (zix (a1 + (1 : Int32)))) (zlen S (zr S a0 3)) = true then if a2 ≤ (w (zr S a0 3) (zix (w (zr S a0 1) (zix (a1 + (1 : Int32)))))) then some (0 : Int32) else some (1 : Int32) else none else none else none
theorem mw_X1_isBad {E : ZE} {S : Zs} (hW : zWF S) (w : Zw) (a0 : Nat) (h0 : zObj S a0 1) (a1 : Int32) (a2 : Int32) : zOk (E, i_X1_isBad, 1) 0 0 S w 0 [(0, .ref a0), (1, .int a1), (2, .int a2)] [] (emP eI S w) (f_X1_isBad S w a0 a1 a2) := by
  unfold f_X1_isBad
  refine z_iload_n 1 dX1_isBad_0 rfl ?_
  refine z_callSN (kc' := 0) (ks' := 0) (v := (some (.int (f_X7_depthOf a1)))) (S1 := S) (w1 := w) (st := []) [.int a1] (m_X7_depthOf hW w a1) zy_X7_depthOf gw290 zn_m2 (Nat.le_of_ble_eq_true rfl) (Nat.le_of_ble_eq_true rfl) (Nat.le_of_ble_eq_true rfl) (Nat.le_of_ble_eq_true rfl) (fun q => ⟨q, rfl⟩) rfl dX1_isBad_1 (z_at 4 _ [.int (f_X7_depthOf a1)] rfl rfl rfl ?_)
  refine z_iconst dX1_isBad_4 zi_1 ?_
  refine z_icmp_eq 20 dX1_isBad_5 rfl (fun q1 => ?_) (fun q1 => ?_)
  · refine z_iconst dX1_isBad_20 zi_0 ?_
    exact z_zret zemP rfl rfl dX1_isBad_21
  · refine z_aload_n 0 dX1_isBad_8 rfl (z_getR zc1 1 (by decide) rfl gw102 h0 (zW_some hW h0 1 rfl) dX1_isBad_9 (z_iload_n 1 dX1_isBad_12 rfl (z_iconst dX1_isBad_13 zi_1 (z_iadd dX1_isBad_14 ?_))))
    refine z_chk (fun c2 => ?_)
    refine z_iald (zW_arr hW h0 1 0 rfl) c2 dX1_isBad_15 (z_iconst dX1_isBad_16 zi_m1 ?_)
    refine z_icmp_ne 22 dX1_isBad_17 rfl (fun q3 => ?_) (fun q3 => ?_)
    · refine z_aload_n 0 dX1_isBad_22 rfl (z_getR zc1 3 (by decide) rfl gw104 h0 (zW_some hW h0 3 rfl) dX1_isBad_23 (z_aload_n 0 dX1_isBad_26 rfl (z_getR zc1 1 (by decide) rfl gw102 h0 (zW_some hW h0 1 rfl) dX1_isBad_27 (z_iload_n 1 dX1_isBad_30 rfl (z_iconst dX1_isBad_31 zi_1 ?_)))))
      refine z_iadd dX1_isBad_32 ?_
      refine z_chk (fun c4 => ?_)
      refine z_iald (zW_arr hW h0 1 0 rfl) c4 dX1_isBad_33 ?_
      refine z_chk (fun c5 => ?_)
      refine z_iald (zW_arr hW h0 3 0 rfl) c5 dX1_isBad_34 (z_iload_n 2 dX1_isBad_35 rfl ?_)
      refine z_icmp_ge 43 dX1_isBad_36 rfl (fun q6 => ?_) (fun q6 => ?_)
      · refine z_iconst dX1_isBad_43 zi_0 ?_
        exact z_zret zemP rfl rfl dX1_isBad_44
      · refine z_iconst dX1_isBad_39 zi_1 (z_goto 44 dX1_isBad_40 rfl ?_)
        exact z_zret zemP rfl rfl dX1_isBad_44
    · refine z_iconst dX1_isBad_20 zi_0 ?_
      exact z_zret zemP rfl rfl dX1_isBad_21

theorem m_X1_isBad {E : ZE} {S : Zs} (hW : zWF S) (w : Zw) (a0 : Nat) (h0 : zObj S a0 1) (a1 : Int32) (a2 : Int32) : ∀ i, f_X1_isBad S w a0 a1 a2 = some i → zMr E yX1_isBad cX1_isBad 3 ((some .boolean)) 1 0 0 [.ref a0, .int a1, .int a2] S w ((emP eI S w) i) :=
  fun i hi => z_enter (by decide +kernel) (Nat.le_of_ble_eq_true rfl) (mw_X1_isBad hW w a0 h0 a1 a2 i hi)
/-! ParkingRobot$Machine.goTo (I)V : W, depth 6 -/
abbrev i_X4_goTo : Zm := (yX4_goTo.cls, cX4_goTo, 2, none, [], yX4_goTo.name)
def f_X4_goTo (S : Zs) (w : Zw) (a0 : Nat) (a1 : Int32) : Option (Unit × Zw) :=
  zlet (zput w a0 2 ((w a0 2) + ((zabs (a1 - (w a0 1))) * (w a0 0)))) fun w1 => zlet (zput w1 a0 1 a1) fun w2 => some ((), w2)
theorem mw_X4_goTo {E : ZE} {S : Zs} (hW : zWF S) (w : Zw) (a0 : Nat) (h0 : zObj S a0 4) (a1 : Int32) : zOk (E, i_X4_goTo, 6) 0 0 S w 0 [(0, .ref a0), (1, .int a1)] [] (emW eU S) (f_X4_goTo S w a0 a1) := by
  unfold f_X4_goTo
  refine z_aload_n 0 dX4_goTo_0 rfl (z_dup dX4_goTo_1 rfl (z_getI zc4 2 (by decide) rfl gw53 h0 dX4_goTo_2 (z_iload_n 1 dX4_goTo_5 rfl (z_aload_n 0 dX4_goTo_6 rfl (z_getI zc4 1 (by decide) rfl gw52 h0 dX4_goTo_7 ?_)))))
  refine z_isub dX4_goTo_10 (z_abs gw353 (Nat.le_of_ble_eq_true rfl) (Nat.le_of_ble_eq_true rfl) dX4_goTo_11 (z_aload_n 0 dX4_goTo_14 rfl (z_getI zc4 0 (by decide) rfl gw51 h0 dX4_goTo_15 (z_imul dX4_goTo_18 (z_iadd dX4_goTo_19 ?_)))))
  refine z_putI zc4 2 (by decide) (Or.inl rfl) rfl gw53 h0 dX4_goTo_20 (z_letw (fun w1 => ?_))
  refine z_aload_n 0 dX4_goTo_23 rfl (z_iload_n 1 dX4_goTo_24 rfl ?_)
  refine z_putI zc4 1 (by decide) (Or.inl rfl) rfl gw52 h0 dX4_goTo_25 (z_letw (fun w2 => ?_))
  exact z_vret zemW rfl dX4_goTo_28

theorem m_X4_goTo {E : ZE} {S : Zs} (hW : zWF S) (w : Zw) (a0 : Nat) (h0 : zObj S a0 4) (a1 : Int32) : ∀ i, f_X4_goTo S w a0 a1 = some i → zMr E yX4_goTo cX4_goTo 2 none 6 0 0 [.ref a0, .int a1] S w ((emW eU S) i) :=
  fun i hi => z_enter (by decide +kernel) (Nat.le_of_ble_eq_true rfl) (mw_X4_goTo hW w a0 h0 a1 i hi)
end ZFN
