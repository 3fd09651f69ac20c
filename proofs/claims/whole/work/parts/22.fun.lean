section ZFN
/-! ParkingRobot$Orders.carOfBest (I)I : P, depth 0 -/
abbrev i_X5_carOfBest : Zm := (yX5_carOfBest.cls, cX5_carOfBest, 2, (some .int), [], yX5_carOfBest.name)
def f_X5_carOfBest (S : Zs) (w : Zw) (a0 : Nat) (a1 : Int32) : Option (Int32) :=
  if zin a1 (zlen S (zr S a0 3)) = true then some (w (zr S a0 3) (zix a1)) else none
theorem mw_X5_carOfBest {E : ZE} {S : Zs} (hW : zWF S) (w : Zw) (a0 : Nat) (h0 : zObj S a0 5) (a1 : Int32) : zOk (E, i_X5_carOfBest, 0) 0 0 S w 0 [(0, .ref a0), (1, .int a1)] [] (emP eI S w) (f_X5_carOfBest S w a0 a1) := by
  unfold f_X5_carOfBest
  refine z_aload_n 0 dX5_carOfBest_0 rfl (z_getR zc5 3 (by decide) rfl gw165 h0 (zW_some hW h0 3 rfl) dX5_carOfBest_1 (z_iload_n 1 dX5_carOfBest_4 rfl ?_))
  refine z_chk (fun c1 => ?_)
  refine z_iald (zW_arr hW h0 3 0 rfl) c1 dX5_carOfBest_5 ?_
  exact z_iret zemP rfl dX5_carOfBest_6

theorem m_X5_carOfBest {E : ZE} {S : Zs} (hW : zWF S) (w : Zw) (a0 : Nat) (h0 : zObj S a0 5) (a1 : Int32) : ∀ i, f_X5_carOfBest S w a0 a1 = some i → zMr E yX5_carOfBest cX5_carOfBest 2 ((some .int)) 0 0 0 [.ref a0, .int a1] S w ((emP eI S w) i) :=
  fun i hi => z_enter (by decide +kernel) (Nat.le_of_ble_eq_true rfl) (mw_X5_carOfBest hW w a0 h0 a1 i hi)
/-! ParkingRobot.bestCar (JI)I : X, depth 32 -/
abbrev i_X7_bestCar : Zm := (yX7_bestCar.cls, cX7_bestCar, 4, (some .int), [], yX7_bestCar.name)
def f_X7_bestCar_j17 (S : Zs) (w : Zw) : Option ((Int32 ⊕ String) × Zw) :=
  some (.inr "java/lang/IllegalArgumentException", w)
theorem m_X7_bestCar_j17 {E : ZE} {S : Zs} (hW : zWF S) (w : Zw) : zOk (E, i_X7_bestCar, 32) 1 6 S w 17 [] [] (emX eI S) (f_X7_bestCar_j17 S w) := by
  unfold f_X7_bestCar_j17
  exact z_throw zx_IAE gw427 zt_RX7_200 (Nat.le_of_ble_eq_true rfl) (Nat.le_of_ble_eq_true rfl) (Nat.le_of_ble_eq_true rfl) rfl (Nat.le_of_ble_eq_true rfl) zemXr dX7_bestCar_17 dX7_bestCar_20 dX7_bestCar_21 dX7_bestCar_23 dX7_bestCar_26

def f_X7_bestCar (S : Zs) (w : Zw) (a0 : Nat) (a1 : Int64) (a2 : Int32) : Option ((Int32 ⊕ String) × Zw) :=
  zbx (f_X7_checkSet S w a0 a1) (fun v1 w2 => if a2 < 0 then f_X7_bestCar_j17 S w2  else if a2 < (f_J13_bitCount_95d88 a1) then (f_X5_findBest S w2 (zr S a0 4) (zr S a0 0) a1).bind fun r7 => zbx (f_X7_checkPossible r7.2 a0 r7.1) (fun v9 w10 => (f_X5_carOfBest S w10 (zr S a0 4) a2).bind fun v13 => some (.inl v13, w10)) (fun e w => some (.inr e, w)) else f_X7_bestCar_j17 S w2 ) (fun e w => some (.inr e, w))
theorem mw_X7_bestCar {E : ZE} {S : Zs} (hW : zWF S) (w : Zw) (a0 : Nat) (h0 : zObj S a0 7) (a1 : Int64) (a2 : Int32) : zOk (E, i_X7_bestCar, 32) 2 12 S w 0 [(0, .ref a0), (1, .long a1), (3, .int a2)] [] (emX eI S) (f_X7_bestCar S w a0 a1 a2) := by
  unfold f_X7_bestCar
  refine z_aload_n 0 dX7_bestCar_0 rfl (z_lload_n 1 dX7_bestCar_1 rfl ?_)
  refine z_bindX (fun j9 hb3 => ?_)
  obtain ⟨v1 | e4, w2⟩ := j9
  case inr => exact z_callVX (kc' := 1) (ks' := 6) (r := (.inr e4, S, w2)) (st := []) [.long a1] (m_X7_checkSet hW w a0 h0 a1 _ hb3) zc7 h0 zy_X7_checkSet gw766 gp10 gw764 (Nat.le_of_ble_eq_true rfl) (Nat.le_of_ble_eq_true rfl) (Nat.le_of_ble_eq_true rfl) (Nat.le_of_ble_eq_true rfl) (zal hW) rfl dX7_bestCar_2 rfl (fun _ q9 => nomatch q9) (fun _ _ i9 hi9 => by cases hi9; rfl)
  refine z_callVX (kc' := 1) (ks' := 6) (r := (.inl (eU v1), S, w2)) (st := []) [.long a1] (m_X7_checkSet hW w a0 h0 a1 _ hb3) zc7 h0 zy_X7_checkSet gw766 gp10 gw764 (Nat.le_of_ble_eq_true rfl) (Nat.le_of_ble_eq_true rfl) (Nat.le_of_ble_eq_true rfl) (Nat.le_of_ble_eq_true rfl) (zal hW) rfl dX7_bestCar_2 rfl (fun v9 hv9 => ?_) (fun _ q9 => nomatch q9)
  cases hv9
  refine z_at 5 _ [] rfl rfl rfl ?_
  dsimp only [zbx]
  refine z_iload_n 2 dX7_bestCar_5 rfl ?_
  refine z_if_lt 17 dX7_bestCar_6 rfl (fun q5 => ?_) (fun q5 => ?_)
  · refine z_sub (lv' := []) [] rfl ?_
    refine z_pc (pc' := 17) rfl ?_
    exact m_X7_bestCar_j17 hW w2 
  · refine z_iload_n 2 dX7_bestCar_9 rfl (z_lload_n 1 dX7_bestCar_10 rfl ?_)
    refine z_callS (kc' := 1) (ks' := 6) (v := (some (.int (f_J13_bitCount_95d88 a1)))) (S1 := S) (w1 := w2) (st := [.int a2]) [.long a1] (m_J13_bitCount_95d88 hW w2 a1) zy_J13_bitCount_95d88 gw751 gw750 (Nat.le_of_ble_eq_true rfl) (Nat.le_of_ble_eq_true rfl) (Nat.le_of_ble_eq_true rfl) (Nat.le_of_ble_eq_true rfl) (zal hW) rfl dX7_bestCar_11 (z_at 14 _ [.int (f_J13_bitCount_95d88 a1), .int a2] rfl rfl rfl ?_)
    refine z_icmp_lt 27 dX7_bestCar_14 rfl (fun q6 => ?_) (fun q6 => ?_)
    · refine z_aload_n 0 dX7_bestCar_27 rfl (z_aload_n 0 dX7_bestCar_28 rfl (z_getR zc7 4 (by decide) rfl gw220 h0 (zW_some hW h0 4 rfl) dX7_bestCar_29 (z_aload_n 0 dX7_bestCar_32 rfl (z_getR zc7 0 (by decide) rfl gw216 h0 (zW_some hW h0 0 rfl) dX7_bestCar_33 (z_lload_n 1 dX7_bestCar_36 rfl ?_)))))
      refine z_bind (fun r7 hb8 => ?_)
      refine z_callV (kc' := 1) (ks' := 6) (v := (some (.int r7.1))) (S1 := S) (w1 := r7.2) (st := [.ref a0]) [.ref (zr S a0 0), .long a1] (m_X5_findBest hW w2 (zr S a0 4) (zW_obj hW h0 4 5 rfl) (zr S a0 0) (zW_obj hW h0 0 1 rfl) a1 r7 hb8) zc5 (zW_obj hW h0 4 5 rfl) zy_X5_findBest gw772 gw773 gw771 (Nat.le_of_ble_eq_true rfl) (Nat.le_of_ble_eq_true rfl) (Nat.le_of_ble_eq_true rfl) (Nat.le_of_ble_eq_true rfl) (zal hW) rfl dX7_bestCar_37 (z_at 40 _ [.int r7.1, .ref a0] rfl rfl rfl ?_)
      refine z_bindX (fun j9 hb11 => ?_)
      obtain ⟨v9 | e12, w10⟩ := j9
      case inr => exact z_callVX (kc' := 0) (ks' := 0) (r := (.inr e12, S, w10)) (st := []) [.int r7.1] (m_X7_checkPossible hW r7.2 a0 h0 r7.1 _ hb11) zc7 h0 zy_X7_checkPossible gw819 gp17 gw817 (Nat.le_of_ble_eq_true rfl) (Nat.le_of_ble_eq_true rfl) (Nat.le_of_ble_eq_true rfl) (Nat.le_of_ble_eq_true rfl) (zal hW) rfl dX7_bestCar_40 rfl (fun _ q9 => nomatch q9) (fun _ _ i9 hi9 => by cases hi9; rfl)
      refine z_callVX (kc' := 0) (ks' := 0) (r := (.inl (eU v9), S, w10)) (st := []) [.int r7.1] (m_X7_checkPossible hW r7.2 a0 h0 r7.1 _ hb11) zc7 h0 zy_X7_checkPossible gw819 gp17 gw817 (Nat.le_of_ble_eq_true rfl) (Nat.le_of_ble_eq_true rfl) (Nat.le_of_ble_eq_true rfl) (Nat.le_of_ble_eq_true rfl) (zal hW) rfl dX7_bestCar_40 rfl (fun v9 hv9 => ?_) (fun _ q9 => nomatch q9)
      cases hv9
      refine z_at 43 _ [] rfl rfl rfl ?_
      dsimp only [zbx]
      refine z_aload_n 0 dX7_bestCar_43 rfl (z_getR zc7 4 (by decide) rfl gw220 h0 (zW_some hW h0 4 rfl) dX7_bestCar_44 (z_iload_n 2 dX7_bestCar_47 rfl ?_))
      refine z_bind (fun v13 hb14 => ?_)
      refine z_callV (kc' := 0) (ks' := 0) (v := (some (.int v13))) (S1 := S) (w1 := w10) (st := []) [.int a2] (m_X5_carOfBest hW w10 (zr S a0 4) (zW_obj hW h0 4 5 rfl) a2 v13 hb14) zc5 (zW_obj hW h0 4 5 rfl) zy_X5_carOfBest gw846 gw847 gw845 (Nat.le_of_ble_eq_true rfl) (Nat.le_of_ble_eq_true rfl) (Nat.le_of_ble_eq_true rfl) (Nat.le_of_ble_eq_true rfl) (zal hW) rfl dX7_bestCar_48 (z_at 51 _ [.int v13] rfl rfl rfl ?_)
      exact z_iret zemX rfl dX7_bestCar_51
    · refine z_sub (lv' := []) [] rfl ?_
      refine z_pc (pc' := 17) rfl ?_
      exact m_X7_bestCar_j17 hW w2 

theorem m_X7_bestCar {E : ZE} {S : Zs} (hW : zWF S) (w : Zw) (a0 : Nat) (h0 : zObj S a0 7) (a1 : Int64) (a2 : Int32) : ∀ i, f_X7_bestCar S w a0 a1 a2 = some i → zMx E yX7_bestCar cX7_bestCar 4 ((some .int)) 32 2 12 [.ref a0, .long a1, .int a2] S w ((emX eI S) i) :=
  fun i hi => z_enterX (by decide +kernel) (Nat.le_of_ble_eq_true rfl) (mw_X7_bestCar hW w a0 h0 a1 a2 i hi)
/-! ParkingRobot$Orders.endOfBest ()I : T, depth 0 -/
abbrev i_X5_endOfBest : Zm := (yX5_endOfBest.cls, cX5_endOfBest, 1, (some .int), [], yX5_endOfBest.name)
def f_X5_endOfBest (S : Zs) (w : Zw) (a0 : Nat) : Int32 :=
  (w a0 7)
theorem mw_X5_endOfBest {E : ZE} {S : Zs} (hW : zWF S) (w : Zw) (a0 : Nat) (h0 : zObj S a0 5) : zOk (E, i_X5_endOfBest, 0) 0 0 S w 0 [(0, .ref a0)] [] (emP eI S w) (some (f_X5_endOfBest S w a0)) := by
  unfold f_X5_endOfBest
  refine z_aload_n 0 dX5_endOfBest_0 rfl (z_getI zc5 7 (by decide) rfl gw169 h0 dX5_endOfBest_1 ?_)
  exact z_iret zemP rfl dX5_endOfBest_4

theorem m_X5_endOfBest {E : ZE} {S : Zs} (hW : zWF S) (w : Zw) (a0 : Nat) (h0 : zObj S a0 5) : zMr E yX5_endOfBest cX5_endOfBest 1 ((some .int)) 0 0 0 [.ref a0] S w (.inl (eI (f_X5_endOfBest S w a0)), S, w) :=
  z_enter (by decide +kernel) (Nat.le_of_ble_eq_true rfl) (mw_X5_endOfBest hW w a0 h0 _ rfl)
/-! ParkingRobot.bestEnd (J)I : X, depth 32 -/
abbrev i_X7_bestEnd : Zm := (yX7_bestEnd.cls, cX7_bestEnd, 3, (some .int), [], yX7_bestEnd.name)
def f_X7_bestEnd (S : Zs) (w : Zw) (a0 : Nat) (a1 : Int64) : Option ((Int32 ⊕ String) × Zw) :=
  zbx (f_X7_checkSet S w a0 a1) (fun v1 w2 => (f_X5_findBest S w2 (zr S a0 4) (zr S a0 0) a1).bind fun r5 => zbx (f_X7_checkPossible r5.2 a0 r5.1) (fun v7 w8 => some (.inl (f_X5_endOfBest S w8 (zr S a0 4)), w8)) (fun e w => some (.inr e, w))) (fun e w => some (.inr e, w))
theorem mw_X7_bestEnd {E : ZE} {S : Zs} (hW : zWF S) (w : Zw) (a0 : Nat) (h0 : zObj S a0 7) (a1 : Int64) : zOk (E, i_X7_bestEnd, 32) 2 12 S w 0 [(0, .ref a0), (1, .long a1)] [] (emX eI S) (f_X7_bestEnd S w a0 a1) := by
  unfold f_X7_bestEnd
  refine z_aload_n 0 dX7_bestEnd_0 rfl (z_lload_n 1 dX7_bestEnd_1 rfl ?_)
  refine z_bindX (fun j9 hb3 => ?_)
  obtain ⟨v1 | e4, w2⟩ := j9
  case inr => exact z_callVX (kc' := 1) (ks' := 6) (r := (.inr e4, S, w2)) (st := []) [.long a1] (m_X7_checkSet hW w a0 h0 a1 _ hb3) zc7 h0 zy_X7_checkSet gw766 gp10 gw764 (Nat.le_of_ble_eq_true rfl) (Nat.le_of_ble_eq_true rfl) (Nat.le_of_ble_eq_true rfl) (Nat.le_of_ble_eq_true rfl) (zal hW) rfl dX7_bestEnd_2 rfl (fun _ q9 => nomatch q9) (fun _ _ i9 hi9 => by cases hi9; rfl)
  refine z_callVX (kc' := 1) (ks' := 6) (r := (.inl (eU v1), S, w2)) (st := []) [.long a1] (m_X7_checkSet hW w a0 h0 a1 _ hb3) zc7 h0 zy_X7_checkSet gw766 gp10 gw764 (Nat.le_of_ble_eq_true rfl) (Nat.le_of_ble_eq_true rfl) (Nat.le_of_ble_eq_true rfl) (Nat.le_of_ble_eq_true rfl) (zal hW) rfl dX7_bestEnd_2 rfl (fun v9 hv9 => ?_) (fun _ q9 => nomatch q9)
  cases hv9
  refine z_at 5 _ [] rfl rfl rfl ?_
  dsimp only [zbx]
  refine z_aload_n 0 dX7_bestEnd_5 rfl (z_aload_n 0 dX7_bestEnd_6 rfl (z_getR zc7 4 (by decide) rfl gw220 h0 (zW_some hW h0 4 rfl) dX7_bestEnd_7 (z_aload_n 0 dX7_bestEnd_10 rfl (z_getR zc7 0 (by decide) rfl gw216 h0 (zW_some hW h0 0 rfl) dX7_bestEnd_11 (z_lload_n 1 dX7_bestEnd_14 rfl ?_)))))
  refine z_bind (fun r5 hb6 => ?_)
  refine z_callV (kc' := 1) (ks' := 6) (v := (some (.int r5.1))) (S1 := S) (w1 := r5.2) (st := [.ref a0]) [.ref (zr S a0 0), .long a1] (m_X5_findBest hW w2 (zr S a0 4) (zW_obj hW h0 4 5 rfl) (zr S a0 0) (zW_obj hW h0 0 1 rfl) a1 r5 hb6) zc5 (zW_obj hW h0 4 5 rfl) zy_X5_findBest gw772 gw773 gw771 (Nat.le_of_ble_eq_true rfl) (Nat.le_of_ble_eq_true rfl) (Nat.le_of_ble_eq_true rfl) (Nat.le_of_ble_eq_true rfl) (zal hW) rfl dX7_bestEnd_15 (z_at 18 _ [.int r5.1, .ref a0] rfl rfl rfl ?_)
  refine z_bindX (fun j9 hb9 => ?_)
  obtain ⟨v7 | e10, w8⟩ := j9
  case inr => exact z_callVX (kc' := 0) (ks' := 0) (r := (.inr e10, S, w8)) (st := []) [.int r5.1] (m_X7_checkPossible hW r5.2 a0 h0 r5.1 _ hb9) zc7 h0 zy_X7_checkPossible gw819 gp17 gw817 (Nat.le_of_ble_eq_true rfl) (Nat.le_of_ble_eq_true rfl) (Nat.le_of_ble_eq_true rfl) (Nat.le_of_ble_eq_true rfl) (zal hW) rfl dX7_bestEnd_18 rfl (fun _ q9 => nomatch q9) (fun _ _ i9 hi9 => by cases hi9; rfl)
  refine z_callVX (kc' := 0) (ks' := 0) (r := (.inl (eU v7), S, w8)) (st := []) [.int r5.1] (m_X7_checkPossible hW r5.2 a0 h0 r5.1 _ hb9) zc7 h0 zy_X7_checkPossible gw819 gp17 gw817 (Nat.le_of_ble_eq_true rfl) (Nat.le_of_ble_eq_true rfl) (Nat.le_of_ble_eq_true rfl) (Nat.le_of_ble_eq_true rfl) (zal hW) rfl dX7_bestEnd_18 rfl (fun v9 hv9 => ?_) (fun _ q9 => nomatch q9)
  cases hv9
  refine z_at 21 _ [] rfl rfl rfl ?_
  dsimp only [zbx]
  refine z_aload_n 0 dX7_bestEnd_21 rfl (z_getR zc7 4 (by decide) rfl gw220 h0 (zW_some hW h0 4 rfl) dX7_bestEnd_22 ?_)
  refine z_callV (kc' := 0) (ks' := 0) (v := (some (.int (f_X5_endOfBest S w8 (zr S a0 4))))) (S1 := S) (w1 := w8) (st := []) [] (m_X5_endOfBest hW w8 (zr S a0 4) (zW_obj hW h0 4 5 rfl)) zc5 (zW_obj hW h0 4 5 rfl) zy_X5_endOfBest gw834 gw835 gw833 (Nat.le_of_ble_eq_true rfl) (Nat.le_of_ble_eq_true rfl) (Nat.le_of_ble_eq_true rfl) (Nat.le_of_ble_eq_true rfl) (zal hW) rfl dX7_bestEnd_25 (z_at 28 _ [.int (f_X5_endOfBest S w8 (zr S a0 4))] rfl rfl rfl ?_)
  exact z_iret zemX rfl dX7_bestEnd_28

theorem m_X7_bestEnd {E : ZE} {S : Zs} (hW : zWF S) (w : Zw) (a0 : Nat) (h0 : zObj S a0 7) (a1 : Int64) : ∀ i, f_X7_bestEnd S w a0 a1 = some i → zMx E yX7_bestEnd cX7_bestEnd 3 ((some .int)) 32 2 12 [.ref a0, .long a1] S w ((emX eI S) i) :=
  fun i hi => z_enterX (by decide +kernel) (Nat.le_of_ble_eq_true rfl) (mw_X7_bestEnd hW w a0 h0 a1 i hi)
/-! ParkingRobot$Orders.movesOfBest ()I : T, depth 0 -/
abbrev i_X5_movesOfBest : Zm := (yX5_movesOfBest.cls, cX5_movesOfBest, 1, (some .int), [], yX5_movesOfBest.name)
def f_X5_movesOfBest (S : Zs) (w : Zw) (a0 : Nat) : Int32 :=
  (w a0 6)
theorem mw_X5_movesOfBest {E : ZE} {S : Zs} (hW : zWF S) (w : Zw) (a0 : Nat) (h0 : zObj S a0 5) : zOk (E, i_X5_movesOfBest, 0) 0 0 S w 0 [(0, .ref a0)] [] (emP eI S w) (some (f_X5_movesOfBest S w a0)) := by
  unfold f_X5_movesOfBest
  refine z_aload_n 0 dX5_movesOfBest_0 rfl (z_getI zc5 6 (by decide) rfl gw168 h0 dX5_movesOfBest_1 ?_)
  exact z_iret zemP rfl dX5_movesOfBest_4

theorem m_X5_movesOfBest {E : ZE} {S : Zs} (hW : zWF S) (w : Zw) (a0 : Nat) (h0 : zObj S a0 5) : zMr E yX5_movesOfBest cX5_movesOfBest 1 ((some .int)) 0 0 0 [.ref a0] S w (.inl (eI (f_X5_movesOfBest S w a0)), S, w) :=
  z_enter (by decide +kernel) (Nat.le_of_ble_eq_true rfl) (mw_X5_movesOfBest hW w a0 h0 _ rfl)
/-! ParkingRobot.bestMoves (J)I : X, depth 32 -/
abbrev i_X7_bestMoves : Zm := (yX7_bestMoves.cls, cX7_bestMoves, 3, (some .int), [], yX7_bestMoves.name)
def f_X7_bestMoves (S : Zs) (w : Zw) (a0 : Nat) (a1 : Int64) : Option ((Int32 ⊕ String) × Zw) :=
  zbx (f_X7_checkSet S w a0 a1) (fun v1 w2 => (f_X5_findBest S w2 (zr S a0 4) (zr S a0 0) a1).bind fun r5 => zbx (f_X7_checkPossible r5.2 a0 r5.1) (fun v7 w8 => some (.inl (f_X5_movesOfBest S w8 (zr S a0 4)), w8)) (fun e w => some (.inr e, w))) (fun e w => some (.inr e, w))
theorem mw_X7_bestMoves {E : ZE} {S : Zs} (hW : zWF S) (w : Zw) (a0 : Nat) (h0 : zObj S a0 7) (a1 : Int64) : zOk (E, i_X7_bestMoves, 32) 2 12 S w 0 [(0, .ref a0), (1, .long a1)] [] (emX eI S) (f_X7_bestMoves S w a0 a1) := by
  unfold f_X7_bestMoves
  refine z_aload_n 0 dX7_bestMoves_0 rfl (z_lload_n 1 dX7_bestMoves_1 rfl ?_)
  refine z_bindX (fun j9 hb3 => ?_)
  obtain ⟨v1 | e4, w2⟩ := j9
  case inr => exact z_callVX (kc' := 1) (ks' := 6) (r := (.inr e4, S, w2)) (st := []) [.long a1] (m_X7_checkSet hW w a0 h0 a1 _ hb3) zc7 h0 zy_X7_checkSet gw766 gp10 gw764 (Nat.le_of_ble_eq_true rfl) (Nat.le_of_ble_eq_true rfl) (Nat.le_of_ble_eq_true rfl) (Nat.le_of_ble_eq_true rfl) (zal hW) rfl dX7_bestMoves_2 rfl (fun _ q9 => nomatch q9) (fun _ _ i9 hi9 => by cases hi9; rfl)
  refine z_callVX (kc' := 1) (ks' := 6) (r := (.inl (eU v1), S, w2)) (st := []) [.long a1] (m_X7_checkSet hW w a0 h0 a1 _ hb3) zc7 h0 zy_X7_checkSet gw766 gp10 gw764 (Nat.le_of_ble_eq_true rfl) (Nat.le_of_ble_eq_true rfl) (Nat.le_of_ble_eq_true rfl) (Nat.le_of_ble_eq_true rfl) (zal hW) rfl dX7_bestMoves_2 rfl (fun v9 hv9 => ?_) (fun _ q9 => nomatch q9)
  cases hv9
  refine z_at 5 _ [] rfl rfl rfl ?_
  dsimp only [zbx]
  refine z_aload_n 0 dX7_bestMoves_5 rfl (z_aload_n 0 dX7_bestMoves_6 rfl (z_getR zc7 4 (by decide) rfl gw220 h0 (zW_some hW h0 4 rfl) dX7_bestMoves_7 (z_aload_n 0 dX7_bestMoves_10 rfl (z_getR zc7 0 (by decide) rfl gw216 h0 (zW_some hW h0 0 rfl) dX7_bestMoves_11 (z_lload_n 1 dX7_bestMoves_14 rfl ?_)))))
  refine z_bind (fun r5 hb6 => ?_)
  refine z_callV (kc' := 1) (ks' := 6) (v := (some (.int r5.1))) (S1 := S) (w1 := r5.2) (st := [.ref a0]) [.ref (zr S a0 0), .long a1] (m_X5_findBest hW w2 (zr S a0 4) (zW_obj hW h0 4 5 rfl) (zr S a0 0) (zW_obj hW h0 0 1 rfl) a1 r5 hb6) zc5 (zW_obj hW h0 4 5 rfl) zy_X5_findBest gw772 gw773 gw771 (Nat.le_of_ble_eq_true rfl) (Nat.le_of_ble_eq_true rfl) (Nat.le_of_ble_eq_true rfl) (Nat.le_of_ble_eq_true rfl) (zal hW) rfl dX7_bestMoves_15 (z_at 18 _ [.int r5.1, .ref a0] rfl rfl rfl ?_)
  refine z_bindX (fun j9 hb9 => ?_)
  obtain ⟨v7 | e10, w8⟩ := j9
  case inr => exact z_callVX (kc' := 0) (ks' := 0) (r := (.inr e10, S, w8)) (st := []) [.int r5.1] (m_X7_checkPossible hW r5.2 a0 h0 r5.1 _ hb9) zc7 h0 zy_X7_checkPossible gw819 gp17 gw817 (Nat.le_of_ble_eq_true rfl) (Nat.le_of_ble_eq_true rfl) (Nat.le_of_ble_eq_true rfl) (Nat.le_of_ble_eq_true rfl) (zal hW) rfl dX7_bestMoves_18 rfl (fun _ q9 => nomatch q9) (fun _ _ i9 hi9 => by cases hi9; rfl)
  refine z_callVX (kc' := 0) (ks' := 0) (r := (.inl (eU v7), S, w8)) (st := []) [.int r5.1] (m_X7_checkPossible hW r5.2 a0 h0 r5.1 _ hb9) zc7 h0 zy_X7_checkPossible gw819 gp17 gw817 (Nat.le_of_ble_eq_true rfl) (Nat.le_of_ble_eq_true rfl) (Nat.le_of_ble_eq_true rfl) (Nat.le_of_ble_eq_true rfl) (zal hW) rfl dX7_bestMoves_18 rfl (fun v9 hv9 => ?_) (fun _ q9 => nomatch q9)
  cases hv9
  refine z_at 21 _ [] rfl rfl rfl ?_
  dsimp only [zbx]
  refine z_aload_n 0 dX7_bestMoves_21 rfl (z_getR zc7 4 (by decide) rfl gw220 h0 (zW_some hW h0 4 rfl) dX7_bestMoves_22 ?_)
  refine z_callV (kc' := 0) (ks' := 0) (v := (some (.int (f_X5_movesOfBest S w8 (zr S a0 4))))) (S1 := S) (w1 := w8) (st := []) [] (m_X5_movesOfBest hW w8 (zr S a0 4) (zW_obj hW h0 4 5 rfl)) zc5 (zW_obj hW h0 4 5 rfl) zy_X5_movesOfBest gw823 gw824 gw822 (Nat.le_of_ble_eq_true rfl) (Nat.le_of_ble_eq_true rfl) (Nat.le_of_ble_eq_true rfl) (Nat.le_of_ble_eq_true rfl) (zal hW) rfl dX7_bestMoves_25 (z_at 28 _ [.int (f_X5_movesOfBest S w8 (zr S a0 4))] rfl rfl rfl ?_)
  exact z_iret zemX rfl dX7_bestMoves_28

theorem m_X7_bestMoves {E : ZE} {S : Zs} (hW : zWF S) (w : Zw) (a0 : Nat) (h0 : zObj S a0 7) (a1 : Int64) : ∀ i, f_X7_bestMoves S w a0 a1 = some i → zMx E yX7_bestMoves cX7_bestMoves 3 ((some .int)) 32 2 12 [.ref a0, .long a1] S w ((emX eI S) i) :=
  fun i hi => z_enterX (by decide +kernel) (Nat.le_of_ble_eq_true rfl) (mw_X7_bestMoves hW w a0 h0 a1 i hi)
/-! ParkingRobot.checkStored (I)V : X, depth 6 -/
abbrev i_X7_checkStored : Zm := (yX7_checkStored.cls, cX7_checkStored, 2, none, [], yX7_checkStored.name)
def f_X7_checkStored (S : Zs) (w : Zw) (a0 : Nat) (a1 : Int32) : Option ((Unit ⊕ String) × Zw) :=
  (f_X1_isStored S w (zr S a0 0) a1).bind fun v1 => if v1 = 0 then some (.inr "java/lang/IndexOutOfBoundsException", w) else some (.inl (), w)
theorem mw_X7_checkStored {E : ZE} {S : Zs} (hW : zWF S) (w : Zw) (a0 : Nat) (h0 : zObj S a0 7) (a1 : Int32) : zOk (E, i_X7_checkStored, 6) 1 6 S w 0 [(0, .ref a0), (1, .int a1)] [] (emX eU S) (f_X7_checkStored S w a0 a1) := by
  unfold f_X7_checkStored
  refine z_aload_n 0 dX7_checkStored_0 rfl (z_getR zc7 0 (by decide) rfl gw216 h0 (zW_some hW h0 0 rfl) dX7_checkStored_1 (z_iload_n 1 dX7_checkStored_4 rfl ?_))
  refine z_bind (fun v1 hb2 => ?_)
  refine z_callV (kc' := 1) (ks' := 6) (v := (some (.int v1))) (S1 := S) (w1 := w) (st := []) [.int a1] (m_X1_isStored hW w (zr S a0 0) (zW_obj hW h0 0 1 rfl) a1 v1 hb2) zc1 (zW_obj hW h0 0 1 rfl) zy_X1_isStored gw282 gw283 gw579 (Nat.le_of_ble_eq_true rfl) (Nat.le_of_ble_eq_true rfl) (Nat.le_of_ble_eq_true rfl) (Nat.le_of_ble_eq_true rfl) (zal hW) rfl dX7_checkStored_5 (z_at 8 _ [.int v1] rfl rfl rfl ?_)
  refine z_if_ne 22 dX7_checkStored_8 rfl (fun q3 => ?_) (fun q3 => ?_)
  · exact z_vret zemX rfl dX7_checkStored_22
  · exact z_throwW zx_IOE gw580 zt_RX7_364 (Nat.le_of_ble_eq_true rfl) (Nat.le_of_ble_eq_true rfl) (Nat.le_of_ble_eq_true rfl) rfl (Nat.le_of_ble_eq_true rfl) zemXr dX7_checkStored_11 dX7_checkStored_14 dX7_checkStored_15 dX7_checkStored_18 dX7_checkStored_21

theorem m_X7_checkStored {E : ZE} {S : Zs} (hW : zWF S) (w : Zw) (a0 : Nat) (h0 : zObj S a0 7) (a1 : Int32) : ∀ i, f_X7_checkStored S w a0 a1 = some i → zMx E yX7_checkStored cX7_checkStored 2 none 6 1 6 [.ref a0, .int a1] S w ((emX eU S) i) :=
  fun i hi => z_enterX (by decide +kernel) (Nat.le_of_ble_eq_true rfl) (mw_X7_checkStored hW w a0 h0 a1 i hi)
/-! ParkingRobot.isTime (I)Z : P, depth 0 -/
abbrev i_X7_isTime : Zm := (yX7_isTime.cls, cX7_isTime, 1, (some .boolean), [], yX7_isTime.name)
def f_X7_isTime (a0 : Int32) : Option (Int32) :=
  if a0 < 0 then some (0 : Int32) else if (9999 : Int32) < a0 then some (0 : Int32) else some (1 : Int32)
theorem mw_X7_isTime {E : ZE} {S : Zs} (hW : zWF S) (w : Zw) (a0 : Int32) : zOk (E, i_X7_isTime, 0) 0 0 S w 0 [(0, .int a0)] [] (emP eI S w) (f_X7_isTime a0) := by
  unfold f_X7_isTime
  refine z_iload_n 0 dX7_isTime_0 rfl ?_
  refine z_if_lt 15 dX7_isTime_1 rfl (fun q1 => ?_) (fun q1 => ?_)
  · refine z_iconst dX7_isTime_15 zi_0 ?_
    exact z_zret zemP rfl rfl dX7_isTime_16
  · refine z_iload_n 0 dX7_isTime_4 rfl (z_sipush dX7_isTime_5 zs_9999 ?_)
    refine z_icmp_gt 15 dX7_isTime_8 rfl (fun q2 => ?_) (fun q2 => ?_)
    · refine z_iconst dX7_isTime_15 zi_0 ?_
      exact z_zret zemP rfl rfl dX7_isTime_16
    · refine z_iconst dX7_isTime_11 zi_1 (z_goto 16 dX7_isTime_12 rfl ?_)
      exact z_zret zemP rfl rfl dX7_isTime_16

theorem m_X7_isTime {E : ZE} {S : Zs} (hW : zWF S) (w : Zw) (a0 : Int32) : ∀ i, f_X7_isTime a0 = some i → zMr E yX7_isTime cX7_isTime 1 ((some .boolean)) 0 0 0 [.int a0] S w ((emP eI S w) i) :=
  fun i hi => z_enter (by decide +kernel) (Nat.le_of_ble_eq_true rfl) (mw_X7_isTime hW w a0 i hi)
/-! ParkingRobot.checkTime (I)V : X, depth 6 -/
abbrev i_X7_checkTime : Zm := (yX7_checkTime.cls, cX7_checkTime, 2, none, [], yX7_checkTime.name)
def f_X7_checkTime (w : Zw) (a0 : Nat) (a1 : Int32) : Option ((Unit ⊕ String) × Zw) :=
  (f_X7_isTime a1).bind fun v1 => if v1 = 0 then some (.inr "java/lang/IllegalArgumentException", w) else some (.inl (), w)
theorem mw_X7_checkTime {E : ZE} {S : Zs} (hW : zWF S) (w : Zw) (a0 : Nat) (h0 : zObj S a0 7) (a1 : Int32) : zOk (E, i_X7_checkTime, 6) 1 6 S w 0 [(0, .ref a0), (1, .int a1)] [] (emX eU S) (f_X7_checkTime w a0 a1) := by
  unfold f_X7_checkTime
  refine z_iload_n 1 dX7_checkTime_0 rfl ?_
  refine z_bind (fun v1 hb2 => ?_)
  refine z_callS (kc' := 1) (ks' := 6) (v := (some (.int v1))) (S1 := S) (w1 := w) (st := []) [.int a1] (m_X7_isTime hW w a1 v1 hb2) zy_X7_isTime gw425 gw424 (Nat.le_of_ble_eq_true rfl) (Nat.le_of_ble_eq_true rfl) (Nat.le_of_ble_eq_true rfl) (Nat.le_of_ble_eq_true rfl) (zal hW) rfl dX7_checkTime_1 (z_at 4 _ [.int v1] rfl rfl rfl ?_)
  refine z_if_ne 18 dX7_checkTime_4 rfl (fun q3 => ?_) (fun q3 => ?_)
  · exact z_vret zemX rfl dX7_checkTime_18
  · exact z_throwW zx_IAE gw427 zt_RX7_362 (Nat.le_of_ble_eq_true rfl) (Nat.le_of_ble_eq_true rfl) (Nat.le_of_ble_eq_true rfl) rfl (Nat.le_of_ble_eq_true rfl) zemXr dX7_checkTime_7 dX7_checkTime_10 dX7_checkTime_11 dX7_checkTime_14 dX7_checkTime_17

theorem m_X7_checkTime {E : ZE} {S : Zs} (hW : zWF S) (w : Zw) (a0 : Nat) (h0 : zObj S a0 7) (a1 : Int32) : ∀ i, f_X7_checkTime w a0 a1 = some i → zMx E yX7_checkTime cX7_checkTime 2 none 6 1 6 [.ref a0, .int a1] S w ((emX eU S) i) :=
  fun i hi => z_enterX (by decide +kernel) (Nat.le_of_ble_eq_true rfl) (mw_X7_checkTime hW w a0 h0 a1 i hi)
/-! ParkingRobot$History.draft (LParkingRobot$Garage;)V : W, depth 9 -/
abbrev i_X2_draft : Zm := (yX2_draft.cls, cX2_draft, 2, none, [], yX2_draft.name)
def f_X2_draft (S : Zs) (w : Zw) (a0 : Nat) (a1 : Nat) : Option (Unit × Zw) :=
  if zin (w a0 1) (zlen S (zr S a0 0)) = true then (f_X1_copyFrom S w (zr S (zr S a0 0) (zix (w a0 1))) a1).bind fun r2 => some ((), r2.2) else none
theorem mw_X2_draft {E : ZE} {S : Zs} (hW : zWF S) (w : Zw) (a0 : Nat) (h0 : zObj S a0 2) (a1 : Nat) (h1 : zObj S a1 1) : zOk (E, i_X2_draft, 9) 0 0 S w 0 [(0, .ref a0), (1, .ref a1)] [] (emW eU S) (f_X2_draft S w a0 a1) := by
  unfold f_X2_draft
  refine z_aload_n 0 dX2_draft_0 rfl (z_getR zc2 0 (by decide) rfl gw144 h0 (zW_some hW h0 0 rfl) dX2_draft_1 (z_aload_n 0 dX2_draft_4 rfl (z_getI zc2 1 (by decide) rfl gw145 h0 dX2_draft_5 ?_)))
  refine z_chk (fun c1 => ?_)
  refine z_aald (Or.inr rfl) (zW_arr hW h0 0 6 rfl) c1 (zW_el6 hW (zW_arr hW h0 0 6 rfl) c1).1 dX2_draft_8 (z_aload_n 1 dX2_draft_9 rfl ?_)
  refine z_bind (fun r2 hb3 => ?_)
  refine z_callV (kc' := 0) (ks' := 0) (v := none) (S1 := S) (w1 := r2.2) (st := []) [.ref a1] (m_X1_copyFrom hW w (zr S (zr S a0 0) (zix (w a0 1))) (zW_el6 hW (zW_arr hW h0 0 6 rfl) c1).2 a1 h1 r2 hb3) zc1 (zW_el6 hW (zW_arr hW h0 0 6 rfl) c1).2 zy_X1_copyFrom gw250 gw251 gw249 (Nat.le_of_ble_eq_true rfl) (Nat.le_of_ble_eq_true rfl) (Nat.le_of_ble_eq_true rfl) (Nat.le_of_ble_eq_true rfl) (zal hW) rfl dX2_draft_10 (z_at 13 _ [] rfl rfl rfl ?_)
  exact z_vret zemW rfl dX2_draft_13

theorem m_X2_draft {E : ZE} {S : Zs} (hW : zWF S) (w : Zw) (a0 : Nat) (h0 : zObj S a0 2) (a1 : Nat) (h1 : zObj S a1 1) : ∀ i, f_X2_draft S w a0 a1 = some i → zMr E yX2_draft cX2_draft 2 none 9 0 0 [.ref a0, .ref a1] S w ((emW eU S) i) :=
  fun i hi => z_enter (by decide +kernel) (Nat.le_of_ble_eq_true rfl) (mw_X2_draft hW w a0 h0 a1 h1 i hi)
/-! ParkingRobot$Garage.changePickup (II)I : W, depth 0 -/
abbrev i_X1_changePickup : Zm := (yX1_changePickup.cls, cX1_changePickup, 4, (some .int), [], yX1_changePickup.name)
def f_X1_changePickup (S : Zs) (w : Zw) (a0 : Nat) (a1 : Int32) (a2 : Int32) : Option (Int32 × Zw) :=
  if zin a1 (zlen S (zr S a0 3)) = true then zlet (w (zr S a0 3) (zix a1)) fun z2 => if zin a1 (zlen S (zr S a0 3)) = true then zlet (zput w (zr S a0 3) (zix a1) a2) fun w4 => some (z2, w4) else none else none
theorem mw_X1_changePickup {E : ZE} {S : Zs} (hW : zWF S) (w : Zw) (a0 : Nat) (h0 : zObj S a0 1) (a1 : Int32) (a2 : Int32) : zOk (E, i_X1_changePickup, 0) 0 0 S w 0 [(0, .ref a0), (1, .int a1), (2, .int a2)] [] (emW eI S) (f_X1_changePickup S w a0 a1 a2) := by
  unfold f_X1_changePickup
  refine z_aload_n 0 dX1_changePickup_0 rfl (z_getR zc1 3 (by decide) rfl gw104 h0 (zW_some hW h0 3 rfl) dX1_changePickup_1 (z_iload_n 1 dX1_changePickup_4 rfl ?_))
  refine z_chk (fun c1 => ?_)
  refine z_iald (zW_arr hW h0 3 0 rfl) c1 dX1_changePickup_5 ?_
  refine z_let (a := (w (zr S a0 3) (zix a1))) (fun z2 => [(0, .ref a0), (1, .int a1), (2, .int a2)]) (fun z2 => .int z2 :: []) (fun z2 => ?_)
  refine z_istore_n (lv' := [(3, .int z2), (0, .ref a0), (1, .int a1), (2, .int a2)]) dX1_changePickup_6 (Nat.le_of_ble_eq_true rfl) rfl (z_aload_n 1 dX1_changePickup_7 rfl (z_getR zc1 3 (by decide) rfl gw104 h0 (zW_some hW h0 3 rfl) dX1_changePickup_8 (z_iload_n 2 dX1_changePickup_11 rfl (z_iload_n 3 dX1_changePickup_12 rfl ?_))))
  refine z_chk (fun c3 => ?_)
  refine z_iast (zW_arr hW h0 3 0 rfl) c3 dX1_changePickup_13 (z_letw (fun w4 => ?_))
  refine z_iload_n 0 dX1_changePickup_14 rfl ?_
  exact z_iret zemW rfl dX1_changePickup_15

theorem m_X1_changePickup {E : ZE} {S : Zs} (hW : zWF S) (w : Zw) (a0 : Nat) (h0 : zObj S a0 1) (a1 : Int32) (a2 : Int32) : ∀ i, f_X1_changePickup S w a0 a1 a2 = some i → zMr E yX1_changePickup cX1_changePickup 4 ((some .int)) 0 0 0 [.ref a0, .int a1, .int a2] S w ((emW eI S) i) :=
  fun i hi => z_enter (by decide +kernel) (Nat.le_of_ble_eq_true rfl) (mw_X1_changePickup hW w a0 h0 a1 a2 i hi)
/-! ParkingRobot$History.keepDraft ()V : W, depth 6 -/
abbrev i_X2_keepDraft : Zm := (yX2_keepDraft.cls, cX2_keepDraft, 1, none, [], yX2_keepDraft.name)
def f_X2_keepDraft (S : Zs) (w : Zw) (a0 : Nat) : Option (Unit × Zw) :=
  zlet (zput w a0 1 (zrem ((w a0 1) + (1 : Int32)) (7 : Int32))) fun w1 => zlet (zput w1 a0 2 (zmin ((w1 a0 2) + (1 : Int32)) (6 : Int32))) fun w2 => some ((), w2)
theorem mw_X2_keepDraft {E : ZE} {S : Zs} (hW : zWF S) (w : Zw) (a0 : Nat) (h0 : zObj S a0 2) : zOk (E, i_X2_keepDraft, 6) 0 0 S w 0 [(0, .ref a0)] [] (emW eU S) (f_X2_keepDraft S w a0) := by
  unfold f_X2_keepDraft
  refine z_aload_n 0 dX2_keepDraft_0 rfl (z_aload_n 0 dX2_keepDraft_1 rfl (z_getI zc2 1 (by decide) rfl gw145 h0 dX2_keepDraft_2 (z_iconst dX2_keepDraft_5 zi_1 (z_iadd dX2_keepDraft_6 (z_bipush dX2_keepDraft_7 zb_7 ?_)))))
  refine z_rem dX2_keepDraft_9 (by decide) ?_
  refine z_putI zc2 1 (by decide) (Or.inl rfl) rfl gw145 h0 dX2_keepDraft_10 (z_letw (fun w1 => ?_))
  refine z_aload_n 0 dX2_keepDraft_13 rfl (z_aload_n 0 dX2_keepDraft_14 rfl (z_getI zc2 2 (by decide) rfl gw146 h0 dX2_keepDraft_15 (z_iconst dX2_keepDraft_18 zi_1 (z_iadd dX2_keepDraft_19 (z_bipush dX2_keepDraft_20 zb_6 ?_)))))
  refine z_min gw387 (Nat.le_of_ble_eq_true rfl) (Nat.le_of_ble_eq_true rfl) dX2_keepDraft_22 ?_
  refine z_putI zc2 2 (by decide) (Or.inl rfl) rfl gw146 h0 dX2_keepDraft_25 (z_letw (fun w2 => ?_))
  exact z_vret zemW rfl dX2_keepDraft_28

theorem m_X2_keepDraft {E : ZE} {S : Zs} (hW : zWF S) (w : Zw) (a0 : Nat) (h0 : zObj S a0 2) : ∀ i, f_X2_keepDraft S w a0 = some i → zMr E yX2_keepDraft cX2_keepDraft 1 none 6 0 0 [.ref a0] S w ((emW eU S) i) :=
  fun i hi => z_enter (by decide +kernel) (Nat.le_of_ble_eq_true rfl) (mw_X2_keepDraft hW w a0 h0 i hi)
/-! ParkingRobot.book (II)I : X, depth 10 -/
abbrev i_X7_book : Zm := (yX7_book.cls, cX7_book, 4, (some .int), [], yX7_book.name)
def f_X7_book (S : Zs) (w : Zw) (a0 : Nat) (a1 : Int32) (a2 : Int32) : Option ((Int32 ⊕ String) × Zw) :=
  zbx (f_X7_checkStored S w a0 a1) (fun v1 w2 => zbx (f_X7_checkTime w2 a0 a2) (fun v5 w6 => (f_X2_draft S w6 (zr S a0 3) (zr S a0 0)).bind fun r9 => (f_X1_changePickup S r9.2 (zr S a0 0) a1 a2).bind fun r11 => (f_X2_keepDraft S r11.2 (zr S a0 3)).bind fun r13 => some (.inl r11.1, r13.2)) (fun e w => some (.inr e, w))) (fun e w => some (.inr e, w))
theorem mw_X7_book {E : ZE} {S : Zs} (hW : zWF S) (w : Zw) (a0 : Nat) (h0 : zObj S a0 7) (a1 : Int32) (a2 : Int32) : zOk (E, i_X7_book, 10) 2 12 S w 0 [(0, .ref a0), (1, .int a1), (2, .int a2)] [] (emX eI S) (f_X7_book S w a0 a1 a2) := by
  unfold f_X7_book
  refine z_aload_n 0 dX7_book_0 rfl (z_iload_n 1 dX7_book_1 rfl ?_)
  refine z_bindX (fun j9 hb3 => ?_)
  obtain ⟨v1 | e4, w2⟩ := j9
  case inr => exact z_callVX (kc' := 1) (ks' := 6) (r := (.inr e4, S, w2)) (st := []) [.int a1] (m_X7_checkStored hW w a0 h0 a1 _ hb3) zc7 h0 zy_X7_checkStored gw577 gp5 gw575 (Nat.le_of_ble_eq_true rfl) (Nat.le_of_ble_eq_true rfl) (Nat.le_of_ble_eq_true rfl) (Nat.le_of_ble_eq_true rfl) (zal hW) rfl dX7_book_2 rfl (fun _ q9 => nomatch q9) (fun _ _ i9 hi9 => by cases hi9; rfl)
  refine z_callVX (kc' := 1) (ks' := 6) (r := (.inl (eU v1), S, w2)) (st := []) [.int a1] (m_X7_checkStored hW w a0 h0 a1 _ hb3) zc7 h0 zy_X7_checkStored gw577 gp5 gw575 (Nat.le_of_ble_eq_true rfl) (Nat.le_of_ble_eq_true rfl) (Nat.le_of_ble_eq_true rfl) (Nat.le_of_ble_eq_true rfl) (zal hW) rfl dX7_book_2 rfl (fun v9 hv9 => ?_) (fun _ q9 => nomatch q9)
  cases hv9
  refine z_at 5 _ [] rfl rfl rfl ?_
  dsimp only [zbx]
  refine z_aload_n 0 dX7_book_5 rfl (z_iload_n 2 dX7_book_6 rfl ?_)
  refine z_bindX (fun j9 hb7 => ?_)
  obtain ⟨v5 | e8, w6⟩ := j9
  case inr => exact z_callVX (kc' := 0) (ks' := 0) (r := (.inr e8, S, w6)) (st := []) [.int a2] (m_X7_checkTime hW w2 a0 h0 a2 _ hb7) zc7 h0 zy_X7_checkTime gw624 gp8 gw622 (Nat.le_of_ble_eq_true rfl) (Nat.le_of_ble_eq_true rfl) (Nat.le_of_ble_eq_true rfl) (Nat.le_of_ble_eq_true rfl) (zal hW) rfl dX7_book_7 rfl (fun _ q9 => nomatch q9) (fun _ _ i9 hi9 => by cases hi9; rfl)
  refine z_callVX (kc' := 0) (ks' := 0) (r := (.inl (eU v5), S, w6)) (st := []) [.int a2] (m_X7_checkTime hW w2 a0 h0 a2 _ hb7) zc7 h0 zy_X7_checkTime gw624 gp8 gw622 (Nat.le_of_ble_eq_true rfl) (Nat.le_of_ble_eq_true rfl) (Nat.le_of_ble_eq_true rfl) (Nat.le_of_ble_eq_true rfl) (zal hW) rfl dX7_book_7 rfl (fun v9 hv9 => ?_) (fun _ q9 => nomatch q9)
  cases hv9
  refine z_at 10 _ [] rfl rfl rfl ?_
  dsimp only [zbx]
  refine z_aload_n 0 dX7_book_10 rfl (z_getR zc7 3 (by decide) rfl gw219 h0 (zW_some hW h0 3 rfl) dX7_book_11 (z_aload_n 0 dX7_book_14 rfl (z_getR zc7 0 (by decide) rfl gw216 h0 (zW_some hW h0 0 rfl) dX7_book_15 ?_)))
  refine z_bind (fun r9 hb10 => ?_)
  refine z_callV (kc' := 0) (ks' := 0) (v := none) (S1 := S) (w1 := r9.2) (st := []) [.ref (zr S a0 0)] (m_X2_draft hW w6 (zr S a0 3) (zW_obj hW h0 3 2 rfl) (zr S a0 0) (zW_obj hW h0 0 1 rfl) r9 hb10) zc2 (zW_obj hW h0 3 2 rfl) zy_X2_draft gw246 gw247 gw245 (Nat.le_of_ble_eq_true rfl) (Nat.le_of_ble_eq_true rfl) (Nat.le_of_ble_eq_true rfl) (Nat.le_of_ble_eq_true rfl) (zal hW) rfl dX7_book_18 (z_at 21 _ [] rfl rfl rfl ?_)
  refine z_aload_n 0 dX7_book_21 rfl (z_getR zc7 0 (by decide) rfl gw216 h0 (zW_some hW h0 0 rfl) dX7_book_22 (z_iload_n 1 dX7_book_25 rfl (z_iload_n 2 dX7_book_26 rfl ?_)))
  refine z_bind (fun r11 hb12 => ?_)
  refine z_callV (kc' := 0) (ks' := 0) (v := (some (.int r11.1))) (S1 := S) (w1 := r11.2) (st := []) [.int a1, .int a2] (m_X1_changePickup hW r9.2 (zr S a0 0) (zW_obj hW h0 0 1 rfl) a1 a2 r11 hb12) zc1 (zW_obj hW h0 0 1 rfl) zy_X1_changePickup gw628 gw629 gw627 (Nat.le_of_ble_eq_true rfl) (Nat.le_of_ble_eq_true rfl) (Nat.le_of_ble_eq_true rfl) (Nat.le_of_ble_eq_true rfl) (zal hW) rfl dX7_book_27 (z_at 30 _ [.int r11.1] rfl rfl rfl ?_)
  refine z_istore_n (lv' := [(3, .int r11.1), (0, .ref a0), (1, .int a1), (2, .int a2)]) dX7_book_30 (Nat.le_of_ble_eq_true rfl) rfl (z_aload_n 1 dX7_book_31 rfl (z_getR zc7 3 (by decide) rfl gw219 h0 (zW_some hW h0 3 rfl) dX7_book_32 ?_))
  refine z_bind (fun r13 hb14 => ?_)
  refine z_callV (kc' := 0) (ks' := 0) (v := none) (S1 := S) (w1 := r13.2) (st := []) [] (m_X2_keepDraft hW r11.2 (zr S a0 3) (zW_obj hW h0 3 2 rfl) r13 hb14) zc2 (zW_obj hW h0 3 2 rfl) zy_X2_keepDraft gw384 gw385 gw383 (Nat.le_of_ble_eq_true rfl) (Nat.le_of_ble_eq_true rfl) (Nat.le_of_ble_eq_true rfl) (Nat.le_of_ble_eq_true rfl) (zal hW) rfl dX7_book_35 (z_at 38 _ [] rfl rfl rfl ?_)
  refine z_iload_n 0 dX7_book_38 rfl ?_
  exact z_iret zemX rfl dX7_book_39

theorem m_X7_book {E : ZE} {S : Zs} (hW : zWF S) (w : Zw) (a0 : Nat) (h0 : zObj S a0 7) (a1 : Int32) (a2 : Int32) : ∀ i, f_X7_book S w a0 a1 a2 = some i → zMx E yX7_book cX7_book 4 ((some .int)) 10 2 12 [.ref a0, .int a1, .int a2] S w ((emX eI S) i) :=
  fun i hi => z_enterX (by decide +kernel) (Nat.le_of_ble_eq_true rfl) (mw_X7_book hW w a0 h0 a1 a2 i hi)
/-! ParkingRobot$Garage.sizeOf (I)I : P, depth 0 -/
abbrev i_X1_sizeOf : Zm := (yX1_sizeOf.cls, cX1_sizeOf, 2, (some .int), [], yX1_sizeOf.name)
def f_X1_sizeOf (S : Zs) (w : Zw) (a0 : Nat) (a1 : Int32) : Option (Int32) :=
  if zin a1 (zlen S (zr S a0 2)) = true then some (w (zr S a0 2) (zix a1)) else none
theorem mw_X1_sizeOf {E : ZE} {S : Zs} (hW : zWF S) (w : Zw) (a0 : Nat) (h0 : zObj S a0 1) (a1 : Int32) : zOk (E, i_X1_sizeOf, 0) 0 0 S w 0 [(0, .ref a0), (1, .int a1)] [] (emP eI S w) (f_X1_sizeOf S w a0 a1) := by
  unfold f_X1_sizeOf
  refine z_aload_n 0 dX1_sizeOf_0 rfl (z_getR zc1 2 (by decide) rfl gw103 h0 (zW_some hW h0 2 rfl) dX1_sizeOf_1 (z_iload_n 1 dX1_sizeOf_4 rfl ?_))
  refine z_chk (fun c1 => ?_)
  refine z_iald (zW_arr hW h0 2 0 rfl) c1 dX1_sizeOf_5 ?_
  exact z_iret zemP rfl dX1_sizeOf_6

theorem m_X1_sizeOf {E : ZE} {S : Zs} (hW : zWF S) (w : Zw) (a0 : Nat) (h0 : zObj S a0 1) (a1 : Int32) : ∀ i, f_X1_sizeOf S w a0 a1 = some i → zMr E yX1_sizeOf cX1_sizeOf 2 ((some .int)) 0 0 0 [.ref a0, .int a1] S w ((emP eI S w) i) :=
  fun i hi => z_enter (by decide +kernel) (Nat.le_of_ble_eq_true rfl) (mw_X1_sizeOf hW w a0 h0 a1 i hi)
/-! ParkingRobot$Garage.pickupOf (I)I : P, depth 0 -/
abbrev i_X1_pickupOf : Zm := (yX1_pickupOf.cls, cX1_pickupOf, 2, (some .int), [], yX1_pickupOf.name)
def f_X1_pickupOf (S : Zs) (w : Zw) (a0 : Nat) (a1 : Int32) : Option (Int32) :=
  if zin a1 (zlen S (zr S a0 3)) = true then some (w (zr S a0 3) (zix a1)) else none
theorem mw_X1_pickupOf {E : ZE} {S : Zs} (hW : zWF S) (w : Zw) (a0 : Nat) (h0 : zObj S a0 1) (a1 : Int32) : zOk (E, i_X1_pickupOf, 0) 0 0 S w 0 [(0, .ref a0), (1, .int a1)] [] (emP eI S w) (f_X1_pickupOf S w a0 a1) := by
  unfold f_X1_pickupOf
  refine z_aload_n 0 dX1_pickupOf_0 rfl (z_getR zc1 3 (by decide) rfl gw104 h0 (zW_some hW h0 3 rfl) dX1_pickupOf_1 (z_iload_n 1 dX1_pickupOf_4 rfl ?_))
  refine z_chk (fun c1 => ?_)
  refine z_iald (zW_arr hW h0 3 0 rfl) c1 dX1_pickupOf_5 ?_
  exact z_iret zemP rfl dX1_pickupOf_6

theorem m_X1_pickupOf {E : ZE} {S : Zs} (hW : zWF S) (w : Zw) (a0 : Nat) (h0 : zObj S a0 1) (a1 : Int32) : ∀ i, f_X1_pickupOf S w a0 a1 = some i → zMr E yX1_pickupOf cX1_pickupOf 2 ((some .int)) 0 0 0 [.ref a0, .int a1] S w ((emP eI S w) i) :=
  fun i hi => z_enter (by decide +kernel) (Nat.le_of_ble_eq_true rfl) (mw_X1_pickupOf hW w a0 h0 a1 i hi)
/-! ParkingRobot$Garage.bayOf (I)I : P, depth 0 -/
abbrev i_X1_bayOf : Zm := (yX1_bayOf.cls, cX1_bayOf, 2, (some .int), [], yX1_bayOf.name)
def f_X1_bayOf (S : Zs) (w : Zw) (a0 : Nat) (a1 : Int32) : Option (Int32) :=
  if zin a1 (zlen S (zr S a0 4)) = true then some (w (zr S a0 4) (zix a1)) else none
theorem mw_X1_bayOf {E : ZE} {S : Zs} (hW : zWF S) (w : Zw) (a0 : Nat) (h0 : zObj S a0 1) (a1 : Int32) : zOk (E, i_X1_bayOf, 0) 0 0 S w 0 [(0, .ref a0), (1, .int a1)] [] (emP eI S w) (f_X1_bayOf S w a0 a1) := by
  unfold f_X1_bayOf
  refine z_aload_n 0 dX1_bayOf_0 rfl (z_getR zc1 4 (by decide) rfl gw105 h0 (zW_some hW h0 4 rfl) dX1_bayOf_1 (z_iload_n 1 dX1_bayOf_4 rfl ?_))
  refine z_chk (fun c1 => ?_)
  refine z_iald (zW_arr hW h0 4 0 rfl) c1 dX1_bayOf_5 ?_
  exact z_iret zemP rfl dX1_bayOf_6

theorem m_X1_bayOf {E : ZE} {S : Zs} (hW : zWF S) (w : Zw) (a0 : Nat) (h0 : zObj S a0 1) (a1 : Int32) : ∀ i, f_X1_bayOf S w a0 a1 = some i → zMr E yX1_bayOf cX1_bayOf 2 ((some .int)) 0 0 0 [.ref a0, .int a1] S w ((emP eI S w) i) :=
  fun i hi => z_enter (by decide +kernel) (Nat.le_of_ble_eq_true rfl) (mw_X1_bayOf hW w a0 h0 a1 i hi)
/-! ParkingRobot$Garage.jobsOf (I)I : P, depth 0 -/
abbrev i_X1_jobsOf : Zm := (yX1_jobsOf.cls, cX1_jobsOf, 2, (some .int), [], yX1_jobsOf.name)
def f_X1_jobsOf (S : Zs) (w : Zw) (a0 : Nat) (a1 : Int32) : Option (Int32) :=
  if zin a1 (zlen S (zr S a0 5)) = true then some (w (zr S a0 5) (zix a1)) else none
theorem mw_X1_jobsOf {E : ZE} {S : Zs} (hW : zWF S) (w : Zw) (a0 : Nat) (h0 : zObj S a0 1) (a1 : Int32) : zOk (E, i_X1_jobsOf, 0) 0 0 S w 0 [(0, .ref a0), (1, .int a1)] [] (emP eI S w) (f_X1_jobsOf S w a0 a1) := by
  unfold f_X1_jobsOf
  refine z_aload_n 0 dX1_jobsOf_0 rfl (z_getR zc1 5 (by decide) rfl gw106 h0 (zW_some hW h0 5 rfl) dX1_jobsOf_1 (z_iload_n 1 dX1_jobsOf_4 rfl ?_))
  refine z_chk (fun c1 => ?_)
  refine z_iald (zW_arr hW h0 5 0 rfl) c1 dX1_jobsOf_5 ?_
  exact z_iret zemP rfl dX1_jobsOf_6

theorem m_X1_jobsOf {E : ZE} {S : Zs} (hW : zWF S) (w : Zw) (a0 : Nat) (h0 : zObj S a0 1) (a1 : Int32) : ∀ i, f_X1_jobsOf S w a0 a1 = some i → zMr E yX1_jobsOf cX1_jobsOf 2 ((some .int)) 0 0 0 [.ref a0, .int a1] S w ((emP eI S w) i) :=
  fun i hi => z_enter (by decide +kernel) (Nat.le_of_ble_eq_true rfl) (mw_X1_jobsOf hW w a0 h0 a1 i hi)
/-! ParkingRobot.car (II)I : X, depth 7 -/
abbrev i_X7_car : Zm := (yX7_car.cls, cX7_car, 3, (some .int), [], yX7_car.name)
def f_X7_car (S : Zs) (w : Zw) (a0 : Nat) (a1 : Int32) (a2 : Int32) : Option ((Int32 ⊕ String) × Zw) :=
  zbx (f_X7_checkStored S w a0 a1) (fun v1 w2 => if a2 = (0 : Int32) then ((f_X1_sizeOf S w2 (zr S a0 0) a1).bind fun v6 => some (.inl v6, w2)) else if a2 = (1 : Int32) then ((f_X1_pickupOf S w2 (zr S a0 0) a1).bind fun v9 => some (.inl v9, w2)) else if a2 = (2 : Int32) then ((f_X1_bayOf S w2 (zr S a0 0) a1).bind fun v12 => some (.inl v12, w2)) else if a2 = (3 : Int32) then ((f_X1_blockerOf S w2 (zr S a0 0) a1).bind fun v15 => some (.inl v15, w2)) else if a2 = (4 : Int32) then ((f_X1_jobsOf S w2 (zr S a0 0) a1).bind fun v18 => some (.inl v18, w2)) else (some (.inr "java/lang/IllegalArgumentException", w2))) (fun e w => some (.inr e, w))
theorem mw_X7_car {E : ZE} {S : Zs} (hW : zWF S) (w : Zw) (a0 : Nat) (h0 : zObj S a0 7) (a1 : Int32) (a2 : Int32) : zOk (E, i_X7_car, 7) 2 12 S w 0 [(0, .ref a0), (1, .int a1), (2, .int a2)] [] (emX eI S) (f_X7_car S w a0 a1 a2) := by
  unfold f_X7_car
  refine z_aload_n 0 dX7_car_0 rfl (z_iload_n 1 dX7_car_1 rfl ?_)
  refine z_bindX (fun j9 hb3 => ?_)
  obtain ⟨v1 | e4, w2⟩ := j9
  case inr => exact z_callVX (kc' := 1) (ks' := 6) (r := (.inr e4, S, w2)) (st := []) [.int a1] (m_X7_checkStored hW w a0 h0 a1 _ hb3) zc7 h0 zy_X7_checkStored gw577 gp5 gw575 (Nat.le_of_ble_eq_true rfl) (Nat.le_of_ble_eq_true rfl) (Nat.le_of_ble_eq_true rfl) (Nat.le_of_ble_eq_true rfl) (zal hW) rfl dX7_car_2 rfl (fun _ q9 => nomatch q9) (fun _ _ i9 hi9 => by cases hi9; rfl)
  refine z_callVX (kc' := 1) (ks' := 6) (r := (.inl (eU v1), S, w2)) (st := []) [.int a1] (m_X7_checkStored hW w a0 h0 a1 _ hb3) zc7 h0 zy_X7_checkStored gw577 gp5 gw575 (Nat.le_of_ble_eq_true rfl) (Nat.le_of_ble_eq_true rfl) (Nat.le_of_ble_eq_true rfl) (Nat.le_of_ble_eq_true rfl) (zal hW) rfl dX7_car_2 rfl (fun v9 hv9 => ?_) (fun _ q9 => nomatch q9)
  cases hv9
  refine z_at 5 _ [] rfl rfl rfl ?_
  dsimp only [zbx]
  refine z_iload_n 2 dX7_car_5 rfl ?_
  refine z_ite _ (fun q5 => ?_) (fun q5 => ?_)
  · refine z_tabIn (off := 34) 40 dX7_car_6 (by rw [q5]; decide) (by rw [q5]; decide) (by rw [q5]; decide) rfl ?_
    refine z_aload_n 0 dX7_car_40 rfl (z_getR zc7 0 (by decide) rfl gw216 h0 (zW_some hW h0 0 rfl) dX7_car_41 (z_iload_n 1 dX7_car_44 rfl ?_))
    refine z_bind (fun v6 hb7 => ?_)
    refine z_callV (kc' := 1) (ks' := 6) (v := (some (.int v6))) (S1 := S) (w1 := w2) (st := []) [.int a1] (m_X1_sizeOf hW w2 (zr S a0 0) (zW_obj hW h0 0 1 rfl) a1 v6 hb7) zc1 (zW_obj hW h0 0 1 rfl) zy_X1_sizeOf gw639 gw640 gw638 (Nat.le_of_ble_eq_true rfl) (Nat.le_of_ble_eq_true rfl) (Nat.le_of_ble_eq_true rfl) (Nat.le_of_ble_eq_true rfl) (zal hW) rfl dX7_car_45 (z_at 48 _ [.int v6] rfl rfl rfl ?_)
    exact z_iret zemX rfl dX7_car_48
  refine z_ite _ (fun q8 => ?_) (fun q8 => ?_)
  · refine z_tabIn (off := 43) 49 dX7_car_6 (by rw [q8]; decide) (by rw [q8]; decide) (by rw [q8]; decide) rfl ?_
    refine z_aload_n 0 dX7_car_49 rfl (z_getR zc7 0 (by decide) rfl gw216 h0 (zW_some hW h0 0 rfl) dX7_car_50 (z_iload_n 1 dX7_car_53 rfl ?_))
    refine z_bind (fun v9 hb10 => ?_)
    refine z_callV (kc' := 1) (ks' := 6) (v := (some (.int v9))) (S1 := S) (w1 := w2) (st := []) [.int a1] (m_X1_pickupOf hW w2 (zr S a0 0) (zW_obj hW h0 0 1 rfl) a1 v9 hb10) zc1 (zW_obj hW h0 0 1 rfl) zy_X1_pickupOf gw643 gw644 gw642 (Nat.le_of_ble_eq_true rfl) (Nat.le_of_ble_eq_true rfl) (Nat.le_of_ble_eq_true rfl) (Nat.le_of_ble_eq_true rfl) (zal hW) rfl dX7_car_54 (z_at 57 _ [.int v9] rfl rfl rfl ?_)
    exact z_iret zemX rfl dX7_car_57
  refine z_ite _ (fun q11 => ?_) (fun q11 => ?_)
  · refine z_tabIn (off := 52) 58 dX7_car_6 (by rw [q11]; decide) (by rw [q11]; decide) (by rw [q11]; decide) rfl ?_
    refine z_aload_n 0 dX7_car_58 rfl (z_getR zc7 0 (by decide) rfl gw216 h0 (zW_some hW h0 0 rfl) dX7_car_59 (z_iload_n 1 dX7_car_62 rfl ?_))
    refine z_bind (fun v12 hb13 => ?_)
    refine z_callV (kc' := 1) (ks' := 6) (v := (some (.int v12))) (S1 := S) (w1 := w2) (st := []) [.int a1] (m_X1_bayOf hW w2 (zr S a0 0) (zW_obj hW h0 0 1 rfl) a1 v12 hb13) zc1 (zW_obj hW h0 0 1 rfl) zy_X1_bayOf gw647 gw648 gw646 (Nat.le_of_ble_eq_true rfl) (Nat.le_of_ble_eq_true rfl) (Nat.le_of_ble_eq_true rfl) (Nat.le_of_ble_eq_true rfl) (zal hW) rfl dX7_car_63 (z_at 66 _ [.int v12] rfl rfl rfl ?_)
    exact z_iret zemX rfl dX7_car_66
  refine z_ite _ (fun q14 => ?_) (fun q14 => ?_)
  · refine z_tabIn (off := 61) 67 dX7_car_6 (by rw [q14]; decide) (by rw [q14]; decide) (by rw [q14]; decide) rfl ?_
    refine z_aload_n 0 dX7_car_67 rfl (z_getR zc7 0 (by decide) rfl gw216 h0 (zW_some hW h0 0 rfl) dX7_car_68 (z_iload_n 1 dX7_car_71 rfl ?_))
    refine z_bind (fun v15 hb16 => ?_)
    refine z_callV (kc' := 1) (ks' := 6) (v := (some (.int v15))) (S1 := S) (w1 := w2) (st := []) [.int a1] (m_X1_blockerOf hW w2 (zr S a0 0) (zW_obj hW h0 0 1 rfl) a1 v15 hb16) zc1 (zW_obj hW h0 0 1 rfl) zy_X1_blockerOf gw278 gw279 gw609 (Nat.le_of_ble_eq_true rfl) (Nat.le_of_ble_eq_true rfl) (Nat.le_of_ble_eq_true rfl) (Nat.le_of_ble_eq_true rfl) (zal hW) rfl dX7_car_72 (z_at 75 _ [.int v15] rfl rfl rfl ?_)
    exact z_iret zemX rfl dX7_car_75
  refine z_ite _ (fun q17 => ?_) (fun q17 => ?_)
  · refine z_tabIn (off := 70) 76 dX7_car_6 (by rw [q17]; decide) (by rw [q17]; decide) (by rw [q17]; decide) rfl ?_
    refine z_aload_n 0 dX7_car_76 rfl (z_getR zc7 0 (by decide) rfl gw216 h0 (zW_some hW h0 0 rfl) dX7_car_77 (z_iload_n 1 dX7_car_80 rfl ?_))
    refine z_bind (fun v18 hb19 => ?_)
    refine z_callV (kc' := 1) (ks' := 6) (v := (some (.int v18))) (S1 := S) (w1 := w2) (st := []) [.int a1] (m_X1_jobsOf hW w2 (zr S a0 0) (zW_obj hW h0 0 1 rfl) a1 v18 hb19) zc1 (zW_obj hW h0 0 1 rfl) zy_X1_jobsOf gw651 gw652 gw650 (Nat.le_of_ble_eq_true rfl) (Nat.le_of_ble_eq_true rfl) (Nat.le_of_ble_eq_true rfl) (Nat.le_of_ble_eq_true rfl) (zal hW) rfl dX7_car_81 (z_at 84 _ [.int v18] rfl rfl rfl ?_)
    exact z_iret zemX rfl dX7_car_84
  refine z_tabOut 85 dX7_car_6 ?_ rfl ?_
  · have n0 := zsw_ne (k := 0) (0 : Int32) (by decide) q5; have n1 := zsw_ne (k := 1) (1 : Int32) (by decide) q8; have n2 := zsw_ne (k := 2) (2 : Int32) (by decide) q11; have n3 := zsw_ne (k := 3) (3 : Int32) (by decide) q14; have n4 := zsw_ne (k := 4) (4 : Int32) (by decide) q17; omega
  exact z_throw zx_IAE gw427 zt_RX7_108 (Nat.le_of_ble_eq_true rfl) (Nat.le_of_ble_eq_true rfl) (Nat.le_of_ble_eq_true rfl) rfl (Nat.le_of_ble_eq_true rfl) zemXr dX7_car_85 dX7_car_88 dX7_car_89 dX7_car_91 dX7_car_94

theorem m_X7_car {E : ZE} {S : Zs} (hW : zWF S) (w : Zw) (a0 : Nat) (h0 : zObj S a0 7) (a1 : Int32) (a2 : Int32) : ∀ i, f_X7_car S w a0 a1 a2 = some i → zMx E yX7_car cX7_car 3 ((some .int)) 7 2 12 [.ref a0, .int a1, .int a2] S w ((emX eI S) i) :=
  fun i hi => z_enterX (by decide +kernel) (Nat.le_of_ble_eq_true rfl) (mw_X7_car hW w a0 h0 a1 a2 i hi)
/-! ParkingRobot.checkSizeAndPickup (II)V : X, depth 6 -/
abbrev i_X7_checkSizeAndPickup : Zm := (yX7_checkSizeAndPickup.cls, cX7_checkSizeAndPickup, 3, none, [], yX7_checkSizeAndPickup.name)
def f_X7_checkSizeAndPickup_j16 (w : Zw) : Option ((Unit ⊕ String) × Zw) :=
  some (.inr "java/lang/IllegalArgumentException", w)
theorem m_X7_checkSizeAndPickup_j16 {E : ZE} {S : Zs} (hW : zWF S) (w : Zw) : zOk (E, i_X7_checkSizeAndPickup, 6) 1 6 S w 16 [] [] (emX eU S) (f_X7_checkSizeAndPickup_j16 w) := by
  unfold f_X7_checkSizeAndPickup_j16
  exact z_throwW zx_IAE gw427 zt_RX7_360 (Nat.le_of_ble_eq_true rfl) (Nat.le_of_ble_eq_true rfl) (Nat.le_of_ble_eq_true rfl) rfl (Nat.le_of_ble_eq_true rfl) zemXr dX7_checkSizeAndPickup_16 dX7_checkSizeAndPickup_19 dX7_checkSizeAndPickup_20 dX7_checkSizeAndPickup_23 dX7_checkSizeAndPickup_26

def f_X7_checkSizeAndPickup (w : Zw) (a0 : Nat) (a1 : Int32) (a2 : Int32) : Option ((Unit ⊕ String) × Zw) :=
  if a1 < 0 then f_X7_checkSizeAndPickup_j16 w  else if (1 : Int32) < a1 then f_X7_checkSizeAndPickup_j16 w  else (f_X7_isTime a2).bind fun v3 => if v3 = 0 then f_X7_checkSizeAndPickup_j16 w  else some (.inl (), w)
theorem mw_X7_checkSizeAndPickup {E : ZE} {S : Zs} (hW : zWF S) (w : Zw) (a0 : Nat) (h0 : zObj S a0 7) (a1 : Int32) (a2 : Int32) : zOk (E, i_X7_checkSizeAndPickup, 6) 1 6 S w 0 [(0, .ref a0), (1, .int a1), (2, .int a2)] [] (emX eU S) (f_X7_checkSizeAndPickup w a0 a1 a2) := by
  unfold f_X7_checkSizeAndPickup
  refine z_iload_n 1 dX7_checkSizeAndPickup_0 rfl ?_
  refine z_if_lt 16 dX7_checkSizeAndPickup_1 rfl (fun q1 => ?_) (fun q1 => ?_)
  · refine z_sub (lv' := []) [] rfl ?_
    refine z_pc (pc' := 16) rfl ?_
    exact m_X7_checkSizeAndPickup_j16 hW w 
  · refine z_iload_n 1 dX7_checkSizeAndPickup_4 rfl (z_iconst dX7_checkSizeAndPickup_5 zi_1 ?_)
    refine z_icmp_gt 16 dX7_checkSizeAndPickup_6 rfl (fun q2 => ?_) (fun q2 => ?_)
    · refine z_sub (lv' := []) [] rfl ?_
      refine z_pc (pc' := 16) rfl ?_
      exact m_X7_checkSizeAndPickup_j16 hW w 
    · refine z_iload_n 2 dX7_checkSizeAndPickup_9 rfl ?_
      refine z_bind (fun v3 hb4 => ?_)
      refine z_callS (kc' := 1) (ks' := 6) (v := (some (.int v3))) (S1 := S) (w1 := w) (st := []) [.int a2] (m_X7_isTime hW w a2 v3 hb4) zy_X7_isTime gw425 gw424 (Nat.le_of_ble_eq_true rfl) (Nat.le_of_ble_eq_true rfl) (Nat.le_of_ble_eq_true rfl) (Nat.le_of_ble_eq_true rfl) (zal hW) rfl dX7_checkSizeAndPickup_10 (z_at 13 _ [.int v3] rfl rfl rfl ?_)
      refine z_if_ne 27 dX7_checkSizeAndPickup_13 rfl (fun q5 => ?_) (fun q5 => ?_)
      · exact z_vret zemX rfl dX7_checkSizeAndPickup_27
      · refine z_sub (lv' := []) [] rfl ?_
        refine z_pc (pc' := 16) rfl ?_
        exact m_X7_checkSizeAndPickup_j16 hW w 

theorem m_X7_checkSizeAndPickup {E : ZE} {S : Zs} (hW : zWF S) (w : Zw) (a0 : Nat) (h0 : zObj S a0 7) (a1 : Int32) (a2 : Int32) : ∀ i, f_X7_checkSizeAndPickup w a0 a1 a2 = some i → zMx E yX7_checkSizeAndPickup cX7_checkSizeAndPickup 3 none 6 1 6 [.ref a0, .int a1, .int a2] S w ((emX eU S) i) :=
  fun i hi => z_enterX (by decide +kernel) (Nat.le_of_ble_eq_true rfl) (mw_X7_checkSizeAndPickup hW w a0 h0 a1 a2 i hi)
/-! ParkingRobot.choice (II)I : X, depth 8 -/
abbrev i_X7_choice : Zm := (yX7_choice.cls, cX7_choice, 4, (some .int), [], yX7_choice.name)
def f_X7_choice (S : Zs) (w : Zw) (a0 : Nat) (a1 : Int32) (a2 : Int32) : Option ((Int32 ⊕ String) × Zw) :=
  zbx (f_X7_checkSizeAndPickup w a0 a1 a2) (fun v1 w2 => (f_X1_chooseBay S w2 (zr S a0 0) a1 a2 (-1 : Int32)).bind fun v5 => if v5 = (-1 : Int32) then some (.inr "java/util/NoSuchElementException", w2) else some (.inl v5, w2)) (fun e w => some (.inr e, w))
theorem mw_X7_choice {E : ZE} {S : Zs} (hW : zWF S) (w : Zw) (a0 : Nat) (h0 : zObj S a0 7) (a1 : Int32) (a2 : Int32) : zOk (E, i_X7_choice, 8) 2 12 S w 0 [(0, .ref a0), (1, .int a1), (2, .int a2)] [] (emX eI S) (f_X7_choice S w a0 a1 a2) := by
  unfold f_X7_choice
  refine z_aload_n 0 dX7_choice_0 rfl (z_iload_n 1 dX7_choice_1 rfl (z_iload_n 2 dX7_choice_2 rfl ?_))
  refine z_bindX (fun j9 hb3 => ?_)
  obtain ⟨v1 | e4, w2⟩ := j9
  case inr => exact z_callVX (kc' := 1) (ks' := 6) (r := (.inr e4, S, w2)) (st := []) [.int a1, .int a2] (m_X7_checkSizeAndPickup hW w a0 h0 a1 a2 _ hb3) zc7 h0 zy_X7_checkSizeAndPickup gw422 gp3 gw420 (Nat.le_of_ble_eq_true rfl) (Nat.le_of_ble_eq_true rfl) (Nat.le_of_ble_eq_true rfl) (Nat.le_of_ble_eq_true rfl) (zal hW) rfl dX7_choice_3 rfl (fun _ q9 => nomatch q9) (fun _ _ i9 hi9 => by cases hi9; rfl)
  refine z_callVX (kc' := 1) (ks' := 6) (r := (.inl (eU v1), S, w2)) (st := []) [.int a1, .int a2] (m_X7_checkSizeAndPickup hW w a0 h0 a1 a2 _ hb3) zc7 h0 zy_X7_checkSizeAndPickup gw422 gp3 gw420 (Nat.le_of_ble_eq_true rfl) (Nat.le_of_ble_eq_true rfl) (Nat.le_of_ble_eq_true rfl) (Nat.le_of_ble_eq_true rfl) (zal hW) rfl dX7_choice_3 rfl (fun v9 hv9 => ?_) (fun _ q9 => nomatch q9)
  cases hv9
  refine z_at 6 _ [] rfl rfl rfl ?_
  dsimp only [zbx]
  refine z_aload_n 0 dX7_choice_6 rfl (z_getR zc7 0 (by decide) rfl gw216 h0 (zW_some hW h0 0 rfl) dX7_choice_7 (z_iload_n 1 dX7_choice_10 rfl (z_iload_n 2 dX7_choice_11 rfl (z_iconst dX7_choice_12 zi_m1 ?_))))
  refine z_bind (fun v5 hb6 => ?_)
  refine z_callV (kc' := 1) (ks' := 6) (v := (some (.int v5))) (S1 := S) (w1 := w2) (st := []) [.int a1, .int a2, .int (-1 : Int32)] (m_X1_chooseBay hW w2 (zr S a0 0) (zW_obj hW h0 0 1 rfl) a1 a2 (-1 : Int32) v5 hb6) zc1 (zW_obj hW h0 0 1 rfl) zy_X1_chooseBay gw305 gw306 gw714 (Nat.le_of_ble_eq_true rfl) (Nat.le_of_ble_eq_true rfl) (Nat.le_of_ble_eq_true rfl) (Nat.le_of_ble_eq_true rfl) (zal hW) rfl dX7_choice_13 (z_at 16 _ [.int v5] rfl rfl rfl ?_)
  refine z_istore_n (lv' := [(3, .int v5), (0, .ref a0), (1, .int a1), (2, .int a2)]) dX7_choice_16 (Nat.le_of_ble_eq_true rfl) rfl (z_iload_n 0 dX7_choice_17 rfl (z_iconst dX7_choice_18 zi_m1 ?_))
  refine z_icmp_ne 32 dX7_choice_19 rfl (fun q7 => ?_) (fun q7 => ?_)
  · refine z_iload_n 0 dX7_choice_32 rfl ?_
    exact z_iret zemX rfl dX7_choice_33
  · exact z_throwN zx_NSE gw715 zt_RX7_69 (Nat.le_of_ble_eq_true rfl) (Nat.le_of_ble_eq_true rfl) (Nat.le_of_ble_eq_true rfl) rfl (Nat.le_of_ble_eq_true rfl) zemXr dX7_choice_22 dX7_choice_25 dX7_choice_26 dX7_choice_28 dX7_choice_31

theorem m_X7_choice {E : ZE} {S : Zs} (hW : zWF S) (w : Zw) (a0 : Nat) (h0 : zObj S a0 7) (a1 : Int32) (a2 : Int32) : ∀ i, f_X7_choice S w a0 a1 a2 = some i → zMx E yX7_choice cX7_choice 4 ((some .int)) 8 2 12 [.ref a0, .int a1, .int a2] S w ((emX eI S) i) :=
  fun i hi => z_enterX (by decide +kernel) (Nat.le_of_ble_eq_true rfl) (mw_X7_choice hW w a0 h0 a1 a2 i hi)
/-! ParkingRobot.due (I)J : X, depth 7 -/
abbrev i_X7_due : Zm := (yX7_due.cls, cX7_due, 2, (some .long), [], yX7_due.name)
def f_X7_due (S : Zs) (w : Zw) (a0 : Nat) (a1 : Int32) : Option ((Int64 ⊕ String) × Zw) :=
  zbx (f_X7_checkTime w a0 a1) (fun v1 w2 => (f_X1_storedUntil S w2 (zr S a0 0) a1).bind fun v5 => some (.inl v5, w2)) (fun e w => some (.inr e, w))
theorem mw_X7_due {E : ZE} {S : Zs} (hW : zWF S) (w : Zw) (a0 : Nat) (h0 : zObj S a0 7) (a1 : Int32) : zOk (E, i_X7_due, 7) 1 6 S w 0 [(0, .ref a0), (1, .int a1)] [] (emX eL S) (f_X7_due S w a0 a1) := by
  unfold f_X7_due
  refine z_aload_n 0 dX7_due_0 rfl (z_iload_n 1 dX7_due_1 rfl ?_)
  refine z_bindX (fun j9 hb3 => ?_)
  obtain ⟨v1 | e4, w2⟩ := j9
  case inr => exact z_callVX (kc' := 0) (ks' := 0) (r := (.inr e4, S, w2)) (st := []) [.int a1] (m_X7_checkTime hW w a0 h0 a1 _ hb3) zc7 h0 zy_X7_checkTime gw624 gp8 gw622 (Nat.le_of_ble_eq_true rfl) (Nat.le_of_ble_eq_true rfl) (Nat.le_of_ble_eq_true rfl) (Nat.le_of_ble_eq_true rfl) (zal hW) rfl dX7_due_2 rfl (fun _ q9 => nomatch q9) (fun _ _ i9 hi9 => by cases hi9; rfl)
  refine z_callVX (kc' := 0) (ks' := 0) (r := (.inl (eU v1), S, w2)) (st := []) [.int a1] (m_X7_checkTime hW w a0 h0 a1 _ hb3) zc7 h0 zy_X7_checkTime gw624 gp8 gw622 (Nat.le_of_ble_eq_true rfl) (Nat.le_of_ble_eq_true rfl) (Nat.le_of_ble_eq_true rfl) (Nat.le_of_ble_eq_true rfl) (zal hW) rfl dX7_due_2 rfl (fun v9 hv9 => ?_) (fun _ q9 => nomatch q9)
  cases hv9
  refine z_at 5 _ [] rfl rfl rfl ?_
  dsimp only [zbx]
  refine z_aload_n 0 dX7_due_5 rfl (z_getR zc7 0 (by decide) rfl gw216 h0 (zW_some hW h0 0 rfl) dX7_due_6 (z_iload_n 1 dX7_due_9 rfl ?_))
  refine z_bind (fun v5 hb6 => ?_)
  refine z_callV (kc' := 0) (ks' := 0) (v := (some (.long v5))) (S1 := S) (w1 := w2) (st := []) [.int a1] (m_X1_storedUntil hW w2 (zr S a0 0) (zW_obj hW h0 0 1 rfl) a1 v5 hb6) zc1 (zW_obj hW h0 0 1 rfl) zy_X1_storedUntil gw663 gw664 gw662 (Nat.le_of_ble_eq_true rfl) (Nat.le_of_ble_eq_true rfl) (Nat.le_of_ble_eq_true rfl) (Nat.le_of_ble_eq_true rfl) (zal hW) rfl dX7_due_10 (z_at 13 _ [.long v5] rfl rfl rfl ?_)
  exact z_lret zemX rfl dX7_due_13

theorem m_X7_due {E : ZE} {S : Zs} (hW : zWF S) (w : Zw) (a0 : Nat) (h0 : zObj S a0 7) (a1 : Int32) : ∀ i, f_X7_due S w a0 a1 = some i → zMx E yX7_due cX7_due 2 ((some .long)) 7 1 6 [.ref a0, .int a1] S w ((emX eL S) i) :=
  fun i hi => z_enterX (by decide +kernel) (Nat.le_of_ble_eq_true rfl) (mw_X7_due hW w a0 h0 a1 i hi)
/-! ParkingRobot$CommandText.append (C)Z : W, depth 0 -/
abbrev i_X0_append : Zm := (yX0_append.cls, cX0_append, 2, (some .boolean), [], yX0_append.name)
def f_X0_append (S : Zs) (w : Zw) (a0 : Nat) (a1 : Int32) : Option (Int32 × Zw) :=
  if (w a0 4) < (60 : Int32) then (if zin (w a0 4) (zlen S (zr S a0 0)) = true then zlet (zput w (zr S a0 0) (zix (w a0 4)) (vp_nar .char a1)) fun w3 => zlet (zput w3 a0 4 ((w3 a0 4) + (1 : Int32))) fun w4 => some ((1 : Int32), w4) else none) else some ((0 : Int32), w)
theorem mw_X0_append {E : ZE} {S : Zs} (hW : zWF S) (w : Zw) (a0 : Nat) (h0 : zObj S a0 0) (a1 : Int32) : zOk (E, i_X0_append, 0) 0 0 S w 0 [(0, .ref a0), (1, .int a1)] [] (emW eI S) (f_X0_append S w a0 a1) := by
  unfold f_X0_append
  refine z_aload_n 0 dX0_append_0 rfl (z_getI zc0 4 (by decide) rfl gw197 h0 dX0_append_1 (z_bipush dX0_append_4 zb_60 ?_))
  refine z_icmp_lt 11 dX0_append_6 rfl (fun q1 => ?_) (fun q1 => ?_)
  · refine z_aload_n 0 dX0_append_11 rfl (z_getR zc0 0 (by decide) rfl gw193 h0 (zW_some hW h0 0 rfl) dX0_append_12 (z_aload_n 0 dX0_append_15 rfl (z_getI zc0 4 (by decide) rfl gw197 h0 dX0_append_16 (z_iload_n 1 dX0_append_19 rfl ?_))))
    refine z_chk (fun c2 => ?_)
    refine z_cast (zW_arr hW h0 0 2 rfl) c2 dX0_append_20 (z_letw (fun w3 => ?_))
    refine z_aload_n 0 dX0_append_21 rfl (z_dup dX0_append_22 rfl (z_getI zc0 4 (by decide) rfl gw197 h0 dX0_append_23 (z_iconst dX0_append_26 zi_1 (z_iadd dX0_append_27 ?_))))
    refine z_putI zc0 4 (by decide) (Or.inl rfl) rfl gw197 h0 dX0_append_28 (z_letw (fun w4 => ?_))
    refine z_iconst dX0_append_31 zi_1 ?_
    exact z_zret zemW rfl rfl dX0_append_32
  · refine z_iconst dX0_append_9 zi_0 ?_
    exact z_zret zemW rfl rfl dX0_append_10

theorem m_X0_append {E : ZE} {S : Zs} (hW : zWF S) (w : Zw) (a0 : Nat) (h0 : zObj S a0 0) (a1 : Int32) : ∀ i, f_X0_append S w a0 a1 = some i → zMr E yX0_append cX0_append 2 ((some .boolean)) 0 0 0 [.ref a0, .int a1] S w ((emW eI S) i) :=
  fun i hi => z_enter (by decide +kernel) (Nat.le_of_ble_eq_true rfl) (mw_X0_append hW w a0 h0 a1 i hi)
/-! ParkingRobot$CommandText.length ()I : T, depth 0 -/
abbrev i_X0_length : Zm := (yX0_length.cls, cX0_length, 1, (some .int), [], yX0_length.name)
def f_X0_length (S : Zs) (w : Zw) (a0 : Nat) : Int32 :=
  (w a0 4)
theorem mw_X0_length {E : ZE} {S : Zs} (hW : zWF S) (w : Zw) (a0 : Nat) (h0 : zObj S a0 0) : zOk (E, i_X0_length, 0) 0 0 S w 0 [(0, .ref a0)] [] (emP eI S w) (some (f_X0_length S w a0)) := by
  unfold f_X0_length
  refine z_aload_n 0 dX0_length_0 rfl (z_getI zc0 4 (by decide) rfl gw197 h0 dX0_length_1 ?_)
  exact z_iret zemP rfl dX0_length_4

theorem m_X0_length {E : ZE} {S : Zs} (hW : zWF S) (w : Zw) (a0 : Nat) (h0 : zObj S a0 0) : zMr E yX0_length cX0_length 1 ((some .int)) 0 0 0 [.ref a0] S w (.inl (eI (f_X0_length S w a0)), S, w) :=
  z_enter (by decide +kernel) (Nat.le_of_ble_eq_true rfl) (mw_X0_length hW w a0 h0 _ rfl)
/-! ParkingRobot.feed (C)I : X, depth 6 -/
abbrev i_X7_feed : Zm := (yX7_feed.cls, cX7_feed, 2, (some .int), [], yX7_feed.name)
def f_X7_feed (S : Zs) (w : Zw) (a0 : Nat) (a1 : Int32) : Option ((Int32 ⊕ String) × Zw) :=
  (f_X0_append S w (zr S a0 5) a1).bind fun r1 => if r1.1 = 0 then some (.inr "java/lang/IllegalStateException", r1.2) else some (.inl (f_X0_length S r1.2 (zr S a0 5)), r1.2)
theorem mw_X7_feed {E : ZE} {S : Zs} (hW : zWF S) (w : Zw) (a0 : Nat) (h0 : zObj S a0 7) (a1 : Int32) : zOk (E, i_X7_feed, 6) 1 6 S w 0 [(0, .ref a0), (1, .int a1)] [] (emX eI S) (f_X7_feed S w a0 a1) := by
  unfold f_X7_feed
  refine z_aload_n 0 dX7_feed_0 rfl (z_getR zc7 5 (by decide) rfl gw221 h0 (zW_some hW h0 5 rfl) dX7_feed_1 (z_iload_n 1 dX7_feed_4 rfl ?_))
  refine z_bind (fun r1 hb2 => ?_)
  refine z_callV (kc' := 1) (ks' := 6) (v := (some (.int r1.1))) (S1 := S) (w1 := r1.2) (st := []) [.int a1] (m_X0_append hW w (zr S a0 5) (zW_obj hW h0 5 0 rfl) a1 r1 hb2) zc0 (zW_obj hW h0 5 0 rfl) zy_X0_append gw1001 gw1002 gw1000 (Nat.le_of_ble_eq_true rfl) (Nat.le_of_ble_eq_true rfl) (Nat.le_of_ble_eq_true rfl) (Nat.le_of_ble_eq_true rfl) (zal hW) rfl dX7_feed_5 (z_at 8 _ [.int r1.1] rfl rfl rfl ?_)
  refine z_if_ne 22 dX7_feed_8 rfl (fun q3 => ?_) (fun q3 => ?_)
  · refine z_aload_n 0 dX7_feed_22 rfl (z_getR zc7 5 (by decide) rfl gw221 h0 (zW_some hW h0 5 rfl) dX7_feed_23 ?_)
    refine z_callV (kc' := 1) (ks' := 6) (v := (some (.int (f_X0_length S r1.2 (zr S a0 5))))) (S1 := S) (w1 := r1.2) (st := []) [] (m_X0_length hW r1.2 (zr S a0 5) (zW_obj hW h0 5 0 rfl)) zc0 (zW_obj hW h0 5 0 rfl) zy_X0_length gw1006 gw1007 gw1005 (Nat.le_of_ble_eq_true rfl) (Nat.le_of_ble_eq_true rfl) (Nat.le_of_ble_eq_true rfl) (Nat.le_of_ble_eq_true rfl) (zal hW) rfl dX7_feed_26 (z_at 29 _ [.int (f_X0_length S r1.2 (zr S a0 5))] rfl rfl rfl ?_)
    exact z_iret zemX rfl dX7_feed_29
  · exact z_throwW zx_ISE gw503 zt_RX7_301 (Nat.le_of_ble_eq_true rfl) (Nat.le_of_ble_eq_true rfl) (Nat.le_of_ble_eq_true rfl) rfl (Nat.le_of_ble_eq_true rfl) zemXr dX7_feed_11 dX7_feed_14 dX7_feed_15 dX7_feed_18 dX7_feed_21

theorem m_X7_feed {E : ZE} {S : Zs} (hW : zWF S) (w : Zw) (a0 : Nat) (h0 : zObj S a0 7) (a1 : Int32) : ∀ i, f_X7_feed S w a0 a1 = some i → zMx E yX7_feed cX7_feed 2 ((some .int)) 6 1 6 [.ref a0, .int a1] S w ((emX eI S) i) :=
  fun i hi => z_enterX (by decide +kernel) (Nat.le_of_ble_eq_true rfl) (mw_X7_feed hW w a0 h0 a1 i hi)
/-! ParkingRobot.job (II)I : X, depth 8 -/
abbrev i_X7_job : Zm := (yX7_job.cls, cX7_job, 3, (some .int), [], yX7_job.name)
def f_X7_job_j18 (S : Zs) (w : Zw) : Option ((Int32 ⊕ String) × Zw) :=
  some (.inr "java/lang/IndexOutOfBoundsException", w)
theorem m_X7_job_j18 {E : ZE} {S : Zs} (hW : zWF S) (w : Zw) : zOk (E, i_X7_job, 8) 1 6 S w 18 [] [] (emX eI S) (f_X7_job_j18 S w) := by
  unfold f_X7_job_j18
  exact z_throwW zx_IOE gw580 zt_RX7_259 (Nat.le_of_ble_eq_true rfl) (Nat.le_of_ble_eq_true rfl) (Nat.le_of_ble_eq_true rfl) rfl (Nat.le_of_ble_eq_true rfl) zemXr dX7_job_18 dX7_job_21 dX7_job_22 dX7_job_25 dX7_job_28

def f_X7_job_j38 (S : Zs) (w : Zw) : Option ((Int32 ⊕ String) × Zw) :=
  some (.inr "java/lang/IllegalArgumentException", w)
theorem m_X7_job_j38 {E : ZE} {S : Zs} (hW : zWF S) (w : Zw) : zOk (E, i_X7_job, 8) 1 6 S w 38 [] [] (emX eI S) (f_X7_job_j38 S w) := by
  unfold f_X7_job_j38
  exact z_throwW zx_IAE gw427 zt_RX7_262 (Nat.le_of_ble_eq_true rfl) (Nat.le_of_ble_eq_true rfl) (Nat.le_of_ble_eq_true rfl) rfl (Nat.le_of_ble_eq_true rfl) zemXr dX7_job_38 dX7_job_41 dX7_job_42 dX7_job_45 dX7_job_48

def f_X7_job (S : Zs) (w : Zw) (a0 : Nat) (a1 : Int32) (a2 : Int32) : Option ((Int32 ⊕ String) × Zw) :=
  if a1 < 0 then f_X7_job_j18 S w  else if a1 < (f_X3_kept S w (f_X1_log S w (zr S a0 0))) then (if a2 < 0 then f_X7_job_j38 S w  else if a2 < (5 : Int32) then (f_X3_partOf S w (f_X1_log S w (zr S a0 0)) a1 a2).bind fun v5 => some (.inl v5, w) else f_X7_job_j38 S w ) else f_X7_job_j18 S w 
theorem mw_X7_job {E : ZE} {S : Zs} (hW : zWF S) (w : Zw) (a0 : Nat) (h0 : zObj S a0 7) (a1 : Int32) (a2 : Int32) : zOk (E, i_X7_job, 8) 1 6 S w 0 [(0, .ref a0), (1, .int a1), (2, .int a2)] [] (emX eI S) (f_X7_job S w a0 a1 a2) := by
  unfold f_X7_job
  refine z_iload_n 1 dX7_job_0 rfl ?_
  refine z_if_lt 18 dX7_job_1 rfl (fun q1 => ?_) (fun q1 => ?_)
  · refine z_sub (lv' := []) [] rfl ?_
    refine z_pc (pc' := 18) rfl ?_
    exact m_X7_job_j18 hW w 
  · refine z_iload_n 1 dX7_job_4 rfl (z_aload_n 0 dX7_job_5 rfl (z_getR zc7 0 (by decide) rfl gw216 h0 (zW_some hW h0 0 rfl) dX7_job_6 ?_))
    refine z_callV (kc' := 1) (ks' := 6) (v := (some (.ref (f_X1_log S w (zr S a0 0))))) (S1 := S) (w1 := w) (st := [.int a1]) [] (m_X1_log hW w (zr S a0 0) (zW_obj hW h0 0 1 rfl)) zc1 (zW_obj hW h0 0 1 rfl) zy_X1_log gw393 gw394 gw392 (Nat.le_of_ble_eq_true rfl) (Nat.le_of_ble_eq_true rfl) (Nat.le_of_ble_eq_true rfl) (Nat.le_of_ble_eq_true rfl) (zal hW) rfl dX7_job_9 (z_at 12 _ [.ref (f_X1_log S w (zr S a0 0)), .int a1] rfl rfl rfl ?_)
    refine z_callV (kc' := 1) (ks' := 6) (v := (some (.int (f_X3_kept S w (f_X1_log S w (zr S a0 0)))))) (S1 := S) (w1 := w) (st := [.int a1]) [] (m_X3_kept hW w (f_X1_log S w (zr S a0 0)) (mo_X1_log hW w (zr S a0 0) (zW_obj hW h0 0 1 rfl))) zc3 (mo_X1_log hW w (zr S a0 0) (zW_obj hW h0 0 1 rfl)) zy_X3_kept gw397 gw398 gw396 (Nat.le_of_ble_eq_true rfl) (Nat.le_of_ble_eq_true rfl) (Nat.le_of_ble_eq_true rfl) (Nat.le_of_ble_eq_true rfl) (zal hW) rfl dX7_job_12 (z_at 15 _ [.int (f_X3_kept S w (f_X1_log S w (zr S a0 0))), .int a1] rfl rfl rfl ?_)
    refine z_icmp_lt 29 dX7_job_15 rfl (fun q2 => ?_) (fun q2 => ?_)
    · refine z_iload_n 2 dX7_job_29 rfl ?_
      refine z_if_lt 38 dX7_job_30 rfl (fun q3 => ?_) (fun q3 => ?_)
      · refine z_sub (lv' := []) [] rfl ?_
        refine z_pc (pc' := 38) rfl ?_
        exact m_X7_job_j38 hW w 
      · refine z_iload_n 2 dX7_job_33 rfl (z_iconst dX7_job_34 zi_5 ?_)
        refine z_icmp_lt 49 dX7_job_35 rfl (fun q4 => ?_) (fun q4 => ?_)
        · refine z_aload_n 0 dX7_job_49 rfl (z_getR zc7 0 (by decide) rfl gw216 h0 (zW_some hW h0 0 rfl) dX7_job_50 ?_)
          refine z_callV (kc' := 1) (ks' := 6) (v := (some (.ref (f_X1_log S w (zr S a0 0))))) (S1 := S) (w1 := w) (st := []) [] (m_X1_log hW w (zr S a0 0) (zW_obj hW h0 0 1 rfl)) zc1 (zW_obj hW h0 0 1 rfl) zy_X1_log gw393 gw394 gw392 (Nat.le_of_ble_eq_true rfl) (Nat.le_of_ble_eq_true rfl) (Nat.le_of_ble_eq_true rfl) (Nat.le_of_ble_eq_true rfl) (zal hW) rfl dX7_job_53 (z_at 56 _ [.ref (f_X1_log S w (zr S a0 0))] rfl rfl rfl ?_)
          refine z_iload_n 1 dX7_job_56 rfl (z_iload_n 2 dX7_job_57 rfl ?_)
          refine z_bind (fun v5 hb6 => ?_)
          refine z_callV (kc' := 1) (ks' := 6) (v := (some (.int v5))) (S1 := S) (w1 := w) (st := []) [.int a1, .int a2] (m_X3_partOf hW w (f_X1_log S w (zr S a0 0)) (mo_X1_log hW w (zr S a0 0) (zW_obj hW h0 0 1 rfl)) a1 a2 v5 hb6) zc3 (mo_X1_log hW w (zr S a0 0) (zW_obj hW h0 0 1 rfl)) zy_X3_partOf gw803 gw804 gw926 (Nat.le_of_ble_eq_true rfl) (Nat.le_of_ble_eq_true rfl) (Nat.le_of_ble_eq_true rfl) (Nat.le_of_ble_eq_true rfl) (zal hW) rfl dX7_job_58 (z_at 61 _ [.int v5] rfl rfl rfl ?_)
          exact z_iret zemX rfl dX7_job_61
        · refine z_sub (lv' := []) [] rfl ?_
          refine z_pc (pc' := 38) rfl ?_
          exact m_X7_job_j38 hW w 
    · refine z_sub (lv' := []) [] rfl ?_
      refine z_pc (pc' := 18) rfl ?_
      exact m_X7_job_j18 hW w 

theorem m_X7_job {E : ZE} {S : Zs} (hW : zWF S) (w : Zw) (a0 : Nat) (h0 : zObj S a0 7) (a1 : Int32) (a2 : Int32) : ∀ i, f_X7_job S w a0 a1 a2 = some i → zMx E yX7_job cX7_job 3 ((some .int)) 8 1 6 [.ref a0, .int a1, .int a2] S w ((emX eI S) i) :=
  fun i hi => z_enterX (by decide +kernel) (Nat.le_of_ble_eq_true rfl) (mw_X7_job hW w a0 h0 a1 a2 i hi)
/-! ParkingRobot.checkMachine (I)V : X, depth 6 -/
abbrev i_X7_checkMachine : Zm := (yX7_checkMachine.cls, cX7_checkMachine, 2, none, [], yX7_checkMachine.name)
def f_X7_checkMachine_j9 (w : Zw) : Option ((Unit ⊕ String) × Zw) :=
  some (.inr "java/lang/IndexOutOfBoundsException", w)
theorem m_X7_checkMachine_j9 {E : ZE} {S : Zs} (hW : zWF S) (w : Zw) : zOk (E, i_X7_checkMachine, 6) 1 6 S w 9 [] [] (emX eU S) (f_X7_checkMachine_j9 w) := by
  unfold f_X7_checkMachine_j9
  exact z_throwW zx_IOE gw580 zt_RX7_368 (Nat.le_of_ble_eq_true rfl) (Nat.le_of_ble_eq_true rfl) (Nat.le_of_ble_eq_true rfl) rfl (Nat.le_of_ble_eq_true rfl) zemXr dX7_checkMachine_9 dX7_checkMachine_12 dX7_checkMachine_13 dX7_checkMachine_16 dX7_checkMachine_19

def f_X7_checkMachine (w : Zw) (a0 : Nat) (a1 : Int32) : Option ((Unit ⊕ String) × Zw) :=
  if a1 < 0 then f_X7_checkMachine_j9 w  else if a1 < (4 : Int32) then some (.inl (), w) else f_X7_checkMachine_j9 w 
theorem mw_X7_checkMachine {E : ZE} {S : Zs} (hW : zWF S) (w : Zw) (a0 : Nat) (h0 : zObj S a0 7) (a1 : Int32) : zOk (E, i_X7_checkMachine, 6) 1 6 S w 0 [(0, .ref a0), (1, .int a1)] [] (emX eU S) (f_X7_checkMachine w a0 a1) := by
  unfold f_X7_checkMachine
  refine z_iload_n 1 dX7_checkMachine_0 rfl ?_
  refine z_if_lt 9 dX7_checkMachine_1 rfl (fun q1 => ?_) (fun q1 => ?_)
  · refine z_sub (lv' := []) [] rfl ?_
    refine z_pc (pc' := 9) rfl ?_
    exact m_X7_checkMachine_j9 hW w 
  · refine z_iload_n 1 dX7_checkMachine_4 rfl (z_iconst dX7_checkMachine_5 zi_4 ?_)
    refine z_icmp_lt 20 dX7_checkMachine_6 rfl (fun q2 => ?_) (fun q2 => ?_)
    · exact z_vret zemX rfl dX7_checkMachine_20
    · refine z_sub (lv' := []) [] rfl ?_
      refine z_pc (pc' := 9) rfl ?_
      exact m_X7_checkMachine_j9 hW w 

theorem m_X7_checkMachine {E : ZE} {S : Zs} (hW : zWF S) (w : Zw) (a0 : Nat) (h0 : zObj S a0 7) (a1 : Int32) : ∀ i, f_X7_checkMachine w a0 a1 = some i → zMx E yX7_checkMachine cX7_checkMachine 2 none 6 1 6 [.ref a0, .int a1] S w ((emX eU S) i) :=
  fun i hi => z_enterX (by decide +kernel) (Nat.le_of_ble_eq_true rfl) (mw_X7_checkMachine hW w a0 h0 a1 i hi)
/-! ParkingRobot$Garage.machineOf (I)LParkingRobot$Machine; : P, depth 0 -/
abbrev i_X1_machineOf : Zm := (yX1_machineOf.cls, cX1_machineOf, 2, (some (.object "ParkingRobot$Machine")), [], yX1_machineOf.name)
def f_X1_machineOf (S : Zs) (w : Zw) (a0 : Nat) (a1 : Int32) : Option (Nat) :=
  if zin a1 (zlen S (zr S (zr S a0 7) 0)) = true then some (zr S (zr S (zr S a0 7) 0) (zix a1)) else none
theorem mw_X1_machineOf {E : ZE} {S : Zs} (hW : zWF S) (w : Zw) (a0 : Nat) (h0 : zObj S a0 1) (a1 : Int32) : zOk (E, i_X1_machineOf, 0) 0 0 S w 0 [(0, .ref a0), (1, .int a1)] [] (emP eR S w) (f_X1_machineOf S w a0 a1) := by
  unfold f_X1_machineOf
  refine z_aload_n 0 dX1_machineOf_0 rfl (z_getR zc1 7 (by decide) rfl gw108 h0 (zW_some hW h0 7 rfl) dX1_machineOf_1 (z_getNR zc6 0 (by decide) rfl zn_f0 (zW_obj hW h0 7 6 rfl) (zW_some hW (zW_obj hW h0 7 6 rfl) 0 rfl) dX1_machineOf_4 (z_iload_n 1 dX1_machineOf_7 rfl ?_)))
  refine z_chk (fun c1 => ?_)
  refine z_aald (Or.inl rfl) (zW_arr hW (zW_obj hW h0 7 6 rfl) 0 5 rfl) c1 (zW_el5 hW (zW_arr hW (zW_obj hW h0 7 6 rfl) 0 5 rfl) c1).1 dX1_machineOf_8 ?_
  exact z_aret zemP rfl dX1_machineOf_9

theorem m_X1_machineOf {E : ZE} {S : Zs} (hW : zWF S) (w : Zw) (a0 : Nat) (h0 : zObj S a0 1) (a1 : Int32) : ∀ i, f_X1_machineOf S w a0 a1 = some i → zMr E yX1_machineOf cX1_machineOf 2 ((some (.object "ParkingRobot$Machine"))) 0 0 0 [.ref a0, .int a1] S w ((emP eR S w) i) :=
  fun i hi => z_enter (by decide +kernel) (Nat.le_of_ble_eq_true rfl) (mw_X1_machineOf hW w a0 h0 a1 i hi)
theorem mo_X1_machineOf {S : Zs} (hW : zWF S) (w : Zw) (a0 : Nat) (h0 : zObj S a0 1) (a1 : Int32) (v : Nat) (h : f_X1_machineOf S w a0 a1 = some v) : zObj S v 4 := by
  unfold f_X1_machineOf at h
  split at h
  · rename_i hc
    cases h
    exact (zW_el5 hW (zW_arr hW (zW_obj hW h0 7 6 rfl) 0 5 rfl) hc).2
  · cases h
/-! ParkingRobot$Machine.freeFrom ()I : T, depth 0 -/
abbrev i_X4_freeFrom : Zm := (yX4_freeFrom.cls, cX4_freeFrom, 1, (some .int), [], yX4_freeFrom.name)
def f_X4_freeFrom (S : Zs) (w : Zw) (a0 : Nat) : Int32 :=
  (w a0 2)
theorem mw_X4_freeFrom {E : ZE} {S : Zs} (hW : zWF S) (w : Zw) (a0 : Nat) (h0 : zObj S a0 4) : zOk (E, i_X4_freeFrom, 0) 0 0 S w 0 [(0, .ref a0)] [] (emP eI S w) (some (f_X4_freeFrom S w a0)) := by
  unfold f_X4_freeFrom
  refine z_aload_n 0 dX4_freeFrom_0 rfl (z_getI zc4 2 (by decide) rfl gw53 h0 dX4_freeFrom_1 ?_)
  exact z_iret zemP rfl dX4_freeFrom_4

theorem m_X4_freeFrom {E : ZE} {S : Zs} (hW : zWF S) (w : Zw) (a0 : Nat) (h0 : zObj S a0 4) : zMr E yX4_freeFrom cX4_freeFrom 1 ((some .int)) 0 0 0 [.ref a0] S w (.inl (eI (f_X4_freeFrom S w a0)), S, w) :=
  z_enter (by decide +kernel) (Nat.le_of_ble_eq_true rfl) (mw_X4_freeFrom hW w a0 h0 _ rfl)
/-! ParkingRobot$Machine.minutes ()I : T, depth 0 -/
abbrev i_X4_minutes : Zm := (yX4_minutes.cls, cX4_minutes, 1, (some .int), [], yX4_minutes.name)
def f_X4_minutes (S : Zs) (w : Zw) (a0 : Nat) : Int32 :=
  (w a0 3)
theorem mw_X4_minutes {E : ZE} {S : Zs} (hW : zWF S) (w : Zw) (a0 : Nat) (h0 : zObj S a0 4) : zOk (E, i_X4_minutes, 0) 0 0 S w 0 [(0, .ref a0)] [] (emP eI S w) (some (f_X4_minutes S w a0)) := by
  unfold f_X4_minutes
  refine z_aload_n 0 dX4_minutes_0 rfl (z_getI zc4 3 (by decide) rfl gw54 h0 dX4_minutes_1 ?_)
  exact z_iret zemP rfl dX4_minutes_4

theorem m_X4_minutes {E : ZE} {S : Zs} (hW : zWF S) (w : Zw) (a0 : Nat) (h0 : zObj S a0 4) : zMr E yX4_minutes cX4_minutes 1 ((some .int)) 0 0 0 [.ref a0] S w (.inl (eI (f_X4_minutes S w a0)), S, w) :=
  z_enter (by decide +kernel) (Nat.le_of_ble_eq_true rfl) (mw_X4_minutes hW w a0 h0 _ rfl)
/-! ParkingRobot.load (I)F : X, depth 7 -/
abbrev i_X7_load : Zm := (yX7_load.cls, cX7_load, 3, (some .float), [], yX7_load.name)
def f_X7_load (S : Zs) (w : Zw) (a0 : Nat) (a1 : Int32) : Option ((UInt32 ⊕ String) × Zw) :=
  zbx (f_X7_checkMachine w a0 a1) (fun v1 w2 => (f_X1_machineOf S w2 (zr S a0 0) a1).bind fun v5 => if (f_X4_freeFrom S w2 v5) = 0 then some (.inr "java/lang/ArithmeticException", w2) else if zn32 (FP.fdiv (FP.i2f (f_X4_minutes S w2 v5)) (FP.i2f (f_X4_freeFrom S w2 v5))) = true then some (.inl (FP.fdiv (FP.i2f (f_X4_minutes S w2 v5)) (FP.i2f (f_X4_freeFrom S w2 v5))), w2) else none) (fun e w => some (.inr e, w))
theorem mw_X7_load {E : ZE} {S : Zs} (hW : zWF S) (w : Zw) (a0 : Nat) (h0 : zObj S a0 7) (a1 : Int32) : zOk (E, i_X7_load, 7) 2 12 S w 0 [(0, .ref a0), (1, .int a1)] [] (emX eF S) (f_X7_load S w a0 a1) := by
  unfold f_X7_load
  refine z_aload_n 0 dX7_load_0 rfl (z_iload_n 1 dX7_load_1 rfl ?_)
  refine z_bindX (fun j9 hb3 => ?_)
  obtain ⟨v1 | e4, w2⟩ := j9
  case inr => exact z_callVX (kc' := 1) (ks' := 6) (r := (.inr e4, S, w2)) (st := []) [.int a1] (m_X7_checkMachine hW w a0 h0 a1 _ hb3) zc7 h0 zy_X7_checkMachine gw897 gp18 gw895 (Nat.le_of_ble_eq_true rfl) (Nat.le_of_ble_eq_true rfl) (Nat.le_of_ble_eq_true rfl) (Nat.le_of_ble_eq_true rfl) (zal hW) rfl dX7_load_2 rfl (fun _ q9 => nomatch q9) (fun _ _ i9 hi9 => by cases hi9; rfl)
  refine z_callVX (kc' := 1) (ks' := 6) (r := (.inl (eU v1), S, w2)) (st := []) [.int a1] (m_X7_checkMachine hW w a0 h0 a1 _ hb3) zc7 h0 zy_X7_checkMachine gw897 gp18 gw895 (Nat.le_of_ble_eq_true rfl) (Nat.le_of_ble_eq_true rfl) (Nat.le_of_ble_eq_true rfl) (Nat.le_of_ble_eq_true rfl) (zal hW) rfl dX7_load_2 rfl (fun v9 hv9 => ?_) (fun _ q9 => nomatch q9)
  cases hv9
  refine z_at 5 _ [] rfl rfl rfl ?_
  dsimp only [zbx]
  refine z_aload_n 0 dX7_load_5 rfl (z_getR zc7 0 (by decide) rfl gw216 h0 (zW_some hW h0 0 rfl) dX7_load_6 (z_iload_n 1 dX7_load_9 rfl ?_))
  refine z_bind (fun v5 hb6 => ?_)
  refine z_callV (kc' := 1) (ks' := 6) (v := (some (.ref v5))) (S1 := S) (w1 := w2) (st := []) [.int a1] (m_X1_machineOf hW w2 (zr S a0 0) (zW_obj hW h0 0 1 rfl) a1 v5 hb6) zc1 (zW_obj hW h0 0 1 rfl) zy_X1_machineOf gw901 gw902 gw900 (Nat.le_of_ble_eq_true rfl) (Nat.le_of_ble_eq_true rfl) (Nat.le_of_ble_eq_true rfl) (Nat.le_of_ble_eq_true rfl) (zal hW) rfl dX7_load_10 (z_at 13 _ [.ref v5] rfl rfl rfl ?_)
  refine z_astore_n (lv' := [(2, .ref v5), (0, .ref a0), (1, .int a1)]) dX7_load_13 (Nat.le_of_ble_eq_true rfl) rfl (z_aload_n 0 dX7_load_14 rfl ?_)
  refine z_callV (kc' := 1) (ks' := 6) (v := (some (.int (f_X4_freeFrom S w2 v5)))) (S1 := S) (w1 := w2) (st := []) [] (m_X4_freeFrom hW w2 v5 (mo_X1_machineOf hW w2 (zr S a0 0) (zW_obj hW h0 0 1 rfl) a1 v5 hb6)) zc4 (mo_X1_machineOf hW w2 (zr S a0 0) (zW_obj hW h0 0 1 rfl) a1 v5 hb6) zy_X4_freeFrom gw909 gw910 gw908 (Nat.le_of_ble_eq_true rfl) (Nat.le_of_ble_eq_true rfl) (Nat.le_of_ble_eq_true rfl) (Nat.le_of_ble_eq_true rfl) (zal hW) rfl dX7_load_15 (z_at 18 _ [.int (f_X4_freeFrom S w2 v5)] rfl rfl rfl ?_)
  refine z_if_ne 32 dX7_load_18 rfl (fun q7 => ?_) (fun q7 => ?_)
  · refine z_aload_n 0 dX7_load_32 rfl ?_
    refine z_callV (kc' := 1) (ks' := 6) (v := (some (.int (f_X4_minutes S w2 v5)))) (S1 := S) (w1 := w2) (st := []) [] (m_X4_minutes hW w2 v5 (mo_X1_machineOf hW w2 (zr S a0 0) (zW_obj hW h0 0 1 rfl) a1 v5 hb6)) zc4 (mo_X1_machineOf hW w2 (zr S a0 0) (zW_obj hW h0 0 1 rfl) a1 v5 hb6) zy_X4_minutes gw913 gw914 gw912 (Nat.le_of_ble_eq_true rfl) (Nat.le_of_ble_eq_true rfl) (Nat.le_of_ble_eq_true rfl) (Nat.le_of_ble_eq_true rfl) (zal hW) rfl dX7_load_33 (z_at 36 _ [.int (f_X4_minutes S w2 v5)] rfl rfl rfl ?_)
    refine z_i2f dX7_load_36 (z_aload_n 0 dX7_load_37 rfl ?_)
    refine z_callV (kc' := 1) (ks' := 6) (v := (some (.int (f_X4_freeFrom S w2 v5)))) (S1 := S) (w1 := w2) (st := [.float (FP.i2f (f_X4_minutes S w2 v5))]) [] (m_X4_freeFrom hW w2 v5 (mo_X1_machineOf hW w2 (zr S a0 0) (zW_obj hW h0 0 1 rfl) a1 v5 hb6)) zc4 (mo_X1_machineOf hW w2 (zr S a0 0) (zW_obj hW h0 0 1 rfl) a1 v5 hb6) zy_X4_freeFrom gw909 gw910 gw908 (Nat.le_of_ble_eq_true rfl) (Nat.le_of_ble_eq_true rfl) (Nat.le_of_ble_eq_true rfl) (Nat.le_of_ble_eq_true rfl) (zal hW) rfl dX7_load_38 (z_at 41 _ [.int (f_X4_freeFrom S w2 v5), .float (FP.i2f (f_X4_minutes S w2 v5))] rfl rfl rfl ?_)
    refine z_i2f dX7_load_41 ?_
    refine z_chk (fun c8 => ?_)
    refine z_fdiv dX7_load_42 (zn32_ok c8) ?_
    exact z_fret zemX rfl dX7_load_43
  · exact z_throwW zx_ARE gw972 zt_RX7_281 (Nat.le_of_ble_eq_true rfl) (Nat.le_of_ble_eq_true rfl) (Nat.le_of_ble_eq_true rfl) rfl (Nat.le_of_ble_eq_true rfl) zemXr dX7_load_21 dX7_load_24 dX7_load_25 dX7_load_28 dX7_load_31

theorem m_X7_load {E : ZE} {S : Zs} (hW : zWF S) (w : Zw) (a0 : Nat) (h0 : zObj S a0 7) (a1 : Int32) : ∀ i, f_X7_load S w a0 a1 = some i → zMx E yX7_load cX7_load 3 ((some .float)) 7 2 12 [.ref a0, .int a1] S w ((emX eF S) i) :=
  fun i hi => z_enterX (by decide +kernel) (Nat.le_of_ble_eq_true rfl) (mw_X7_load hW w a0 h0 a1 i hi)
/-! ParkingRobot$Machine.place ()I : T, depth 0 -/
abbrev i_X4_place : Zm := (yX4_place.cls, cX4_place, 1, (some .int), [], yX4_place.name)
def f_X4_place (S : Zs) (w : Zw) (a0 : Nat) : Int32 :=
  (w a0 1)
theorem mw_X4_place {E : ZE} {S : Zs} (hW : zWF S) (w : Zw) (a0 : Nat) (h0 : zObj S a0 4) : zOk (E, i_X4_place, 0) 0 0 S w 0 [(0, .ref a0)] [] (emP eI S w) (some (f_X4_place S w a0)) := by
  unfold f_X4_place
  refine z_aload_n 0 dX4_place_0 rfl (z_getI zc4 1 (by decide) rfl gw52 h0 dX4_place_1 ?_)
  exact z_iret zemP rfl dX4_place_4

theorem m_X4_place {E : ZE} {S : Zs} (hW : zWF S) (w : Zw) (a0 : Nat) (h0 : zObj S a0 4) : zMr E yX4_place cX4_place 1 ((some .int)) 0 0 0 [.ref a0] S w (.inl (eI (f_X4_place S w a0)), S, w) :=
  z_enter (by decide +kernel) (Nat.le_of_ble_eq_true rfl) (mw_X4_place hW w a0 h0 _ rfl)
/-! ParkingRobot.machine (II)I : X, depth 7 -/
abbrev i_X7_machine : Zm := (yX7_machine.cls, cX7_machine, 4, (some .int), [], yX7_machine.name)
def f_X7_machine (S : Zs) (w : Zw) (a0 : Nat) (a1 : Int32) (a2 : Int32) : Option ((Int32 ⊕ String) × Zw) :=
  zbx (f_X7_checkMachine w a0 a1) (fun v1 w2 => (f_X1_machineOf S w2 (zr S a0 0) a1).bind fun v5 => if a2 = (0 : Int32) then (some (.inl (f_X4_place S w2 v5), w2)) else if a2 = (1 : Int32) then (some (.inl (f_X4_freeFrom S w2 v5), w2)) else if a2 = (2 : Int32) then (some (.inl (f_X4_minutes S w2 v5), w2)) else (some (.inr "java/lang/IllegalArgumentException", w2))) (fun e w => some (.inr e, w))
theorem mw_X7_machine {E : ZE} {S : Zs} (hW : zWF S) (w : Zw) (a0 : Nat) (h0 : zObj S a0 7) (a1 : Int32) (a2 : Int32) : zOk (E, i_X7_machine, 7) 2 12 S w 0 [(0, .ref a0), (1, .int a1), (2, .int a2)] [] (emX eI S) (f_X7_machine S w a0 a1 a2) := by
  unfold f_X7_machine
  refine z_aload_n 0 dX7_machine_0 rfl (z_iload_n 1 dX7_machine_1 rfl ?_)
  refine z_bindX (fun j9 hb3 => ?_)
  obtain ⟨v1 | e4, w2⟩ := j9
  case inr => exact z_callVX (kc' := 1) (ks' := 6) (r := (.inr e4, S, w2)) (st := []) [.int a1] (m_X7_checkMachine hW w a0 h0 a1 _ hb3) zc7 h0 zy_X7_checkMachine gw897 gp18 gw895 (Nat.le_of_ble_eq_true rfl) (Nat.le_of_ble_eq_true rfl) (Nat.le_of_ble_eq_true rfl) (Nat.le_of_ble_eq_true rfl) (zal hW) rfl dX7_machine_2 rfl (fun _ q9 => nomatch q9) (fun _ _ i9 hi9 => by cases hi9; rfl)
  refine z_callVX (kc' := 1) (ks' := 6) (r := (.inl (eU v1), S, w2)) (st := []) [.int a1] (m_X7_checkMachine hW w a0 h0 a1 _ hb3) zc7 h0 zy_X7_checkMachine gw897 gp18 gw895 (Nat.le_of_ble_eq_true rfl) (Nat.le_of_ble_eq_true rfl) (Nat.le_of_ble_eq_true rfl) (Nat.le_of_ble_eq_true rfl) (zal hW) rfl dX7_machine_2 rfl (fun v9 hv9 => ?_) (fun _ q9 => nomatch q9)
  cases hv9
  refine z_at 5 _ [] rfl rfl rfl ?_
  dsimp only [zbx]
  refine z_aload_n 0 dX7_machine_5 rfl (z_getR zc7 0 (by decide) rfl gw216 h0 (zW_some hW h0 0 rfl) dX7_machine_6 (z_iload_n 1 dX7_machine_9 rfl ?_))
  refine z_bind (fun v5 hb6 => ?_)
  refine z_callV (kc' := 1) (ks' := 6) (v := (some (.ref v5))) (S1 := S) (w1 := w2) (st := []) [.int a1] (m_X1_machineOf hW w2 (zr S a0 0) (zW_obj hW h0 0 1 rfl) a1 v5 hb6) zc1 (zW_obj hW h0 0 1 rfl) zy_X1_machineOf gw901 gw902 gw900 (Nat.le_of_ble_eq_true rfl) (Nat.le_of_ble_eq_true rfl) (Nat.le_of_ble_eq_true rfl) (Nat.le_of_ble_eq_true rfl) (zal hW) rfl dX7_machine_10 (z_at 13 _ [.ref v5] rfl rfl rfl ?_)
  refine z_astore_n (lv' := [(3, .ref v5), (0, .ref a0), (1, .int a1), (2, .int a2)]) dX7_machine_13 (Nat.le_of_ble_eq_true rfl) rfl (z_iload_n 3 dX7_machine_14 rfl ?_)
  refine z_ite _ (fun q7 => ?_) (fun q7 => ?_)
  · refine z_tabIn (off := 25) 40 dX7_machine_15 (by rw [q7]; decide) (by rw [q7]; decide) (by rw [q7]; decide) rfl ?_
    refine z_aload_n 0 dX7_machine_40 rfl ?_
    refine z_callV (kc' := 1) (ks' := 6) (v := (some (.int (f_X4_place S w2 v5)))) (S1 := S) (w1 := w2) (st := []) [] (m_X4_place hW w2 v5 (mo_X1_machineOf hW w2 (zr S a0 0) (zW_obj hW h0 0 1 rfl) a1 v5 hb6)) zc4 (mo_X1_machineOf hW w2 (zr S a0 0) (zW_obj hW h0 0 1 rfl) a1 v5 hb6) zy_X4_place gw905 gw906 gw904 (Nat.le_of_ble_eq_true rfl) (Nat.le_of_ble_eq_true rfl) (Nat.le_of_ble_eq_true rfl) (Nat.le_of_ble_eq_true rfl) (zal hW) rfl dX7_machine_41 (z_at 44 _ [.int (f_X4_place S w2 v5)] rfl rfl rfl ?_)
    exact z_iret zemX rfl dX7_machine_44
  refine z_ite _ (fun q8 => ?_) (fun q8 => ?_)
  · refine z_tabIn (off := 30) 45 dX7_machine_15 (by rw [q8]; decide) (by rw [q8]; decide) (by rw [q8]; decide) rfl ?_
    refine z_aload_n 0 dX7_machine_45 rfl ?_
    refine z_callV (kc' := 1) (ks' := 6) (v := (some (.int (f_X4_freeFrom S w2 v5)))) (S1 := S) (w1 := w2) (st := []) [] (m_X4_freeFrom hW w2 v5 (mo_X1_machineOf hW w2 (zr S a0 0) (zW_obj hW h0 0 1 rfl) a1 v5 hb6)) zc4 (mo_X1_machineOf hW w2 (zr S a0 0) (zW_obj hW h0 0 1 rfl) a1 v5 hb6) zy_X4_freeFrom gw909 gw910 gw908 (Nat.le_of_ble_eq_true rfl) (Nat.le_of_ble_eq_true rfl) (Nat.le_of_ble_eq_true rfl) (Nat.le_of_ble_eq_true rfl) (zal hW) rfl dX7_machine_46 (z_at 49 _ [.int (f_X4_freeFrom S w2 v5)] rfl rfl rfl ?_)
    exact z_iret zemX rfl dX7_machine_49
  refine z_ite _ (fun q9 => ?_) (fun q9 => ?_)
  · refine z_tabIn (off := 35) 50 dX7_machine_15 (by rw [q9]; decide) (by rw [q9]; decide) (by rw [q9]; decide) rfl ?_
    refine z_aload_n 0 dX7_machine_50 rfl ?_
    refine z_callV (kc' := 1) (ks' := 6) (v := (some (.int (f_X4_minutes S w2 v5)))) (S1 := S) (w1 := w2) (st := []) [] (m_X4_minutes hW w2 v5 (mo_X1_machineOf hW w2 (zr S a0 0) (zW_obj hW h0 0 1 rfl) a1 v5 hb6)) zc4 (mo_X1_machineOf hW w2 (zr S a0 0) (zW_obj hW h0 0 1 rfl) a1 v5 hb6) zy_X4_minutes gw913 gw914 gw912 (Nat.le_of_ble_eq_true rfl) (Nat.le_of_ble_eq_true rfl) (Nat.le_of_ble_eq_true rfl) (Nat.le_of_ble_eq_true rfl) (zal hW) rfl dX7_machine_51 (z_at 54 _ [.int (f_X4_minutes S w2 v5)] rfl rfl rfl ?_)
    exact z_iret zemX rfl dX7_machine_54
  refine z_tabOut 55 dX7_machine_15 ?_ rfl ?_
  · have n0 := zsw_ne (k := 0) (0 : Int32) (by decide) q7; have n1 := zsw_ne (k := 1) (1 : Int32) (by decide) q8; have n2 := zsw_ne (k := 2) (2 : Int32) (by decide) q9; omega
  exact z_throw zx_IAE gw427 zt_RX7_246 (Nat.le_of_ble_eq_true rfl) (Nat.le_of_ble_eq_true rfl) (Nat.le_of_ble_eq_true rfl) rfl (Nat.le_of_ble_eq_true rfl) zemXr dX7_machine_55 dX7_machine_58 dX7_machine_59 dX7_machine_61 dX7_machine_64

theorem m_X7_machine {E : ZE} {S : Zs} (hW : zWF S) (w : Zw) (a0 : Nat) (h0 : zObj S a0 7) (a1 : Int32) (a2 : Int32) : ∀ i, f_X7_machine S w a0 a1 a2 = some i → zMx E yX7_machine cX7_machine 4 ((some .int)) 7 2 12 [.ref a0, .int a1, .int a2] S w ((emX eI S) i) :=
  fun i hi => z_enterX (by decide +kernel) (Nat.le_of_ble_eq_true rfl) (mw_X7_machine hW w a0 h0 a1 a2 i hi)
/-! ParkingRobot.meanJob ()D : X, depth 6 -/
abbrev i_X7_meanJob : Zm := (yX7_meanJob.cls, cX7_meanJob, 1, (some .double), [], yX7_meanJob.name)
def f_X7_meanJob (S : Zs) (w : Zw) (a0 : Nat) : Option ((UInt64 ⊕ String) × Zw) :=
  if (f_X3_total S w (f_X1_log S w (zr S a0 0))) = 0 then some (.inr "java/lang/ArithmeticException", w) else if zn64 (FP.ddiv (FP.i2d (f_X3_minutes S w (f_X1_log S w (zr S a0 0)))) (FP.i2d (f_X3_total S w (f_X1_log S w (zr S a0 0))))) = true then some (.inl (FP.ddiv (FP.i2d (f_X3_minutes S w (f_X1_log S w (zr S a0 0)))) (FP.i2d (f_X3_total S w (f_X1_log S w (zr S a0 0))))), w) else none
theorem mw_X7_meanJob {E : ZE} {S : Zs} (hW : zWF S) (w : Zw) (a0 : Nat) (h0 : zObj S a0 7) : zOk (E, i_X7_meanJob, 6) 1 6 S w 0 [(0, .ref a0)] [] (emX eD S) (f_X7_meanJob S w a0) := by
  unfold f_X7_meanJob
  refine z_aload_n 0 dX7_meanJob_0 rfl (z_getR zc7 0 (by decide) rfl gw216 h0 (zW_some hW h0 0 rfl) dX7_meanJob_1 ?_)
  refine z_callV (kc' := 1) (ks' := 6) (v := (some (.ref (f_X1_log S w (zr S a0 0))))) (S1 := S) (w1 := w) (st := []) [] (m_X1_log hW w (zr S a0 0) (zW_obj hW h0 0 1 rfl)) zc1 (zW_obj hW h0 0 1 rfl) zy_X1_log gw393 gw394 gw392 (Nat.le_of_ble_eq_true rfl) (Nat.le_of_ble_eq_true rfl) (Nat.le_of_ble_eq_true rfl) (Nat.le_of_ble_eq_true rfl) (zal hW) rfl dX7_meanJob_4 (z_at 7 _ [.ref (f_X1_log S w (zr S a0 0))] rfl rfl rfl ?_)
  refine z_callV (kc' := 1) (ks' := 6) (v := (some (.int (f_X3_total S w (f_X1_log S w (zr S a0 0)))))) (S1 := S) (w1 := w) (st := []) [] (m_X3_total hW w (f_X1_log S w (zr S a0 0)) (mo_X1_log hW w (zr S a0 0) (zW_obj hW h0 0 1 rfl))) zc3 (mo_X1_log hW w (zr S a0 0) (zW_obj hW h0 0 1 rfl)) zy_X3_total gw782 gw783 gw982 (Nat.le_of_ble_eq_true rfl) (Nat.le_of_ble_eq_true rfl) (Nat.le_of_ble_eq_true rfl) (Nat.le_of_ble_eq_true rfl) (zal hW) rfl dX7_meanJob_7 (z_at 10 _ [.int (f_X3_total S w (f_X1_log S w (zr S a0 0)))] rfl rfl rfl ?_)
  refine z_if_ne 24 dX7_meanJob_10 rfl (fun q1 => ?_) (fun q1 => ?_)
  · refine z_aload_n 0 dX7_meanJob_24 rfl (z_getR zc7 0 (by decide) rfl gw216 h0 (zW_some hW h0 0 rfl) dX7_meanJob_25 ?_)
    refine z_callV (kc' := 1) (ks' := 6) (v := (some (.ref (f_X1_log S w (zr S a0 0))))) (S1 := S) (w1 := w) (st := []) [] (m_X1_log hW w (zr S a0 0) (zW_obj hW h0 0 1 rfl)) zc1 (zW_obj hW h0 0 1 rfl) zy_X1_log gw393 gw394 gw392 (Nat.le_of_ble_eq_true rfl) (Nat.le_of_ble_eq_true rfl) (Nat.le_of_ble_eq_true rfl) (Nat.le_of_ble_eq_true rfl) (zal hW) rfl dX7_meanJob_28 (z_at 31 _ [.ref (f_X1_log S w (zr S a0 0))] rfl rfl rfl ?_)
    refine z_callV (kc' := 1) (ks' := 6) (v := (some (.int (f_X3_minutes S w (f_X1_log S w (zr S a0 0)))))) (S1 := S) (w1 := w) (st := []) [] (m_X3_minutes hW w (f_X1_log S w (zr S a0 0)) (mo_X1_log hW w (zr S a0 0) (zW_obj hW h0 0 1 rfl))) zc3 (mo_X1_log hW w (zr S a0 0) (zW_obj hW h0 0 1 rfl)) zy_X3_minutes gw943 gw944 gw942 (Nat.le_of_ble_eq_true rfl) (Nat.le_of_ble_eq_true rfl) (Nat.le_of_ble_eq_true rfl) (Nat.le_of_ble_eq_true rfl) (zal hW) rfl dX7_meanJob_31 (z_at 34 _ [.int (f_X3_minutes S w (f_X1_log S w (zr S a0 0)))] rfl rfl rfl ?_)
    refine z_i2d dX7_meanJob_34 (z_aload_n 0 dX7_meanJob_35 rfl (z_getR zc7 0 (by decide) rfl gw216 h0 (zW_some hW h0 0 rfl) dX7_meanJob_36 ?_))
    refine z_callV (kc' := 1) (ks' := 6) (v := (some (.ref (f_X1_log S w (zr S a0 0))))) (S1 := S) (w1 := w) (st := [.double (FP.i2d (f_X3_minutes S w (f_X1_log S w (zr S a0 0))))]) [] (m_X1_log hW w (zr S a0 0) (zW_obj hW h0 0 1 rfl)) zc1 (zW_obj hW h0 0 1 rfl) zy_X1_log gw393 gw394 gw392 (Nat.le_of_ble_eq_true rfl) (Nat.le_of_ble_eq_true rfl) (Nat.le_of_ble_eq_true rfl) (Nat.le_of_ble_eq_true rfl) (zal hW) rfl dX7_meanJob_39 (z_at 42 _ [.ref (f_X1_log S w (zr S a0 0)), .double (FP.i2d (f_X3_minutes S w (f_X1_log S w (zr S a0 0))))] rfl rfl rfl ?_)
    refine z_callV (kc' := 1) (ks' := 6) (v := (some (.int (f_X3_total S w (f_X1_log S w (zr S a0 0)))))) (S1 := S) (w1 := w) (st := [.double (FP.i2d (f_X3_minutes S w (f_X1_log S w (zr S a0 0))))]) [] (m_X3_total hW w (f_X1_log S w (zr S a0 0)) (mo_X1_log hW w (zr S a0 0) (zW_obj hW h0 0 1 rfl))) zc3 (mo_X1_log hW w (zr S a0 0) (zW_obj hW h0 0 1 rfl)) zy_X3_total gw782 gw783 gw982 (Nat.le_of_ble_eq_true rfl) (Nat.le_of_ble_eq_true rfl) (Nat.le_of_ble_eq_true rfl) (Nat.le_of_ble_eq_true rfl) (zal hW) rfl dX7_meanJob_42 (z_at 45 _ [.int (f_X3_total S w (f_X1_log S w (zr S a0 0))), .double (FP.i2d (f_X3_minutes S w (f_X1_log S w (zr S a0 0))))] rfl rfl rfl ?_)
    refine z_i2d dX7_meanJob_45 ?_
    refine z_chk (fun c2 => ?_)
    refine z_ddiv dX7_meanJob_46 (zn64_ok c2) ?_
    exact z_dret zemX rfl dX7_meanJob_47
  · exact z_throwW zx_ARE gw972 zt_RX7_287 (Nat.le_of_ble_eq_true rfl) (Nat.le_of_ble_eq_true rfl) (Nat.le_of_ble_eq_true rfl) rfl (Nat.le_of_ble_eq_true rfl) zemXr dX7_meanJob_13 dX7_meanJob_16 dX7_meanJob_17 dX7_meanJob_20 dX7_meanJob_23

theorem m_X7_meanJob {E : ZE} {S : Zs} (hW : zWF S) (w : Zw) (a0 : Nat) (h0 : zObj S a0 7) : ∀ i, f_X7_meanJob S w a0 = some i → zMx E yX7_meanJob cX7_meanJob 1 ((some .double)) 6 1 6 [.ref a0] S w ((emX eD S) i) :=
  fun i hi => z_enterX (by decide +kernel) (Nat.le_of_ble_eq_true rfl) (mw_X7_meanJob hW w a0 h0 i hi)
/-! ParkingRobot.isPass (I)Z : P, depth 0 -/
abbrev i_X7_isPass : Zm := (yX7_isPass.cls, cX7_isPass, 1, (some .boolean), [], yX7_isPass.name)
def f_X7_isPass (a0 : Int32) : Option (Int32) :=
  if a0 < (1 : Int32) then some (0 : Int32) else if (999 : Int32) < a0 then some (0 : Int32) else some (1 : Int32)
theorem mw_X7_isPass {E : ZE} {S : Zs} (hW : zWF S) (w : Zw) (a0 : Int32) : zOk (E, i_X7_isPass, 0) 0 0 S w 0 [(0, .int a0)] [] (emP eI S w) (f_X7_isPass a0) := by
  unfold f_X7_isPass
  refine z_iload_n 0 dX7_isPass_0 rfl (z_iconst dX7_isPass_1 zi_1 ?_)
  refine z_icmp_lt 16 dX7_isPass_2 rfl (fun q1 => ?_) (fun q1 => ?_)
  · refine z_iconst dX7_isPass_16 zi_0 ?_
    exact z_zret zemP rfl rfl dX7_isPass_17
  · refine z_iload_n 0 dX7_isPass_5 rfl (z_sipush dX7_isPass_6 zs_999 ?_)
    refine z_icmp_gt 16 dX7_isPass_9 rfl (fun q2 => ?_) (fun q2 => ?_)
    · refine z_iconst dX7_isPass_16 zi_0 ?_
      exact z_zret zemP rfl rfl dX7_isPass_17
    · refine z_iconst dX7_isPass_12 zi_1 (z_goto 17 dX7_isPass_13 rfl ?_)
      exact z_zret zemP rfl rfl dX7_isPass_17

theorem m_X7_isPass {E : ZE} {S : Zs} (hW : zWF S) (w : Zw) (a0 : Int32) : ∀ i, f_X7_isPass a0 = some i → zMr E yX7_isPass cX7_isPass 1 ((some .boolean)) 0 0 0 [.int a0] S w ((emP eI S w) i) :=
  fun i hi => z_enter (by decide +kernel) (Nat.le_of_ble_eq_true rfl) (mw_X7_isPass hW w a0 i hi)
/-! ParkingRobot$Garage.letPass (I)Z : W, depth 0 -/
abbrev i_X1_letPass : Zm := (yX1_letPass.cls, cX1_letPass, 2, (some .boolean), [], yX1_letPass.name)
def f_X1_letPass (S : Zs) (w : Zw) (a0 : Nat) (a1 : Int32) : Option (Int32 × Zw) :=
  if ((w (zr S a0 7) 3) + a1) ≤ (9999 : Int32) then (zlet (zput w (zr S a0 7) 3 ((w (zr S a0 7) 3) + a1)) fun w2 => some ((1 : Int32), w2)) else some ((0 : Int32), w)
theorem mw_X1_letPass {E : ZE} {S : Zs} (hW : zWF S) (w : Zw) (a0 : Nat) (h0 : zObj S a0 1) (a1 : Int32) : zOk (E, i_X1_letPass, 0) 0 0 S w 0 [(0, .ref a0), (1, .int a1)] [] (emW eI S) (f_X1_letPass S w a0 a1) := by
  unfold f_X1_letPass
  refine z_aload_n 0 dX1_letPass_0 rfl (z_getR zc1 7 (by decide) rfl gw108 h0 (zW_some hW h0 7 rfl) dX1_letPass_1 (z_getNI zc6 3 (by decide) rfl zn_f2 (zW_obj hW h0 7 6 rfl) dX1_letPass_4 (z_iload_n 1 dX1_letPass_7 rfl (z_iadd dX1_letPass_8 (z_sipush dX1_letPass_9 zs_9999 ?_)))))
  refine z_icmp_le 17 dX1_letPass_12 rfl (fun q1 => ?_) (fun q1 => ?_)
  · refine z_aload_n 0 dX1_letPass_17 rfl (z_getR zc1 7 (by decide) rfl gw108 h0 (zW_some hW h0 7 rfl) dX1_letPass_18 (z_dup dX1_letPass_21 rfl (z_getNI zc6 3 (by decide) rfl zn_f2 (zW_obj hW h0 7 6 rfl) dX1_letPass_22 (z_iload_n 1 dX1_letPass_25 rfl (z_iadd dX1_letPass_26 ?_)))))
    refine z_putNI zc6 3 (by decide) (Or.inl rfl) rfl zn_f2 (zW_obj hW h0 7 6 rfl) dX1_letPass_27 (z_letw (fun w2 => ?_))
    refine z_iconst dX1_letPass_30 zi_1 ?_
    exact z_zret zemW rfl rfl dX1_letPass_31
  · refine z_iconst dX1_letPass_15 zi_0 ?_
    exact z_zret zemW rfl rfl dX1_letPass_16

theorem m_X1_letPass {E : ZE} {S : Zs} (hW : zWF S) (w : Zw) (a0 : Nat) (h0 : zObj S a0 1) (a1 : Int32) : ∀ i, f_X1_letPass S w a0 a1 = some i → zMr E yX1_letPass cX1_letPass 2 ((some .boolean)) 0 0 0 [.ref a0, .int a1] S w ((emW eI S) i) :=
  fun i hi => z_enter (by decide +kernel) (Nat.le_of_ble_eq_true rfl) (mw_X1_letPass hW w a0 h0 a1 i hi)
/-! ParkingRobot.pass (I)I : X, depth 10 -/
abbrev i_X7_pass : Zm := (yX7_pass.cls, cX7_pass, 2, (some .int), [], yX7_pass.name)
def f_X7_pass (S : Zs) (w : Zw) (a0 : Nat) (a1 : Int32) : Option ((Int32 ⊕ String) × Zw) :=
  (f_X7_isPass a1).bind fun v1 => if v1 = 0 then some (.inr "java/lang/IllegalArgumentException", w) else (f_X2_draft S w (zr S a0 3) (zr S a0 0)).bind fun r4 => (f_X1_letPass S r4.2 (zr S a0 0) a1).bind fun r6 => if r6.1 = 0 then some (.inr "java/lang/IllegalStateException", r6.2) else (f_X2_keepDraft S r6.2 (zr S a0 3)).bind fun r9 => some (.inl (f_X1_time S r9.2 (zr S a0 0)), r9.2)
theorem mw_X7_pass {E : ZE} {S : Zs} (hW : zWF S) (w : Zw) (a0 : Nat) (h0 : zObj S a0 7) (a1 : Int32) : zOk (E, i_X7_pass, 10) 1 6 S w 0 [(0, .ref a0), (1, .int a1)] [] (emX eI S) (f_X7_pass S w a0 a1) := by
  unfold f_X7_pass
  refine z_iload_n 1 dX7_pass_0 rfl ?_
  refine z_bind (fun v1 hb2 => ?_)
  refine z_callS (kc' := 1) (ks' := 6) (v := (some (.int v1))) (S1 := S) (w1 := w) (st := []) [.int a1] (m_X7_isPass hW w a1 v1 hb2) zy_X7_isPass gw876 gw875 (Nat.le_of_ble_eq_true rfl) (Nat.le_of_ble_eq_true rfl) (Nat.le_of_ble_eq_true rfl) (Nat.le_of_ble_eq_true rfl) (zal hW) rfl dX7_pass_1 (z_at 4 _ [.int v1] rfl rfl rfl ?_)
  refine z_if_ne 17 dX7_pass_4 rfl (fun q3 => ?_) (fun q3 => ?_)
  · refine z_aload_n 0 dX7_pass_17 rfl (z_getR zc7 3 (by decide) rfl gw219 h0 (zW_some hW h0 3 rfl) dX7_pass_18 (z_aload_n 0 dX7_pass_21 rfl (z_getR zc7 0 (by decide) rfl gw216 h0 (zW_some hW h0 0 rfl) dX7_pass_22 ?_)))
    refine z_bind (fun r4 hb5 => ?_)
    refine z_callV (kc' := 1) (ks' := 6) (v := none) (S1 := S) (w1 := r4.2) (st := []) [.ref (zr S a0 0)] (m_X2_draft hW w (zr S a0 3) (zW_obj hW h0 3 2 rfl) (zr S a0 0) (zW_obj hW h0 0 1 rfl) r4 hb5) zc2 (zW_obj hW h0 3 2 rfl) zy_X2_draft gw246 gw247 gw245 (Nat.le_of_ble_eq_true rfl) (Nat.le_of_ble_eq_true rfl) (Nat.le_of_ble_eq_true rfl) (Nat.le_of_ble_eq_true rfl) (zal hW) rfl dX7_pass_25 (z_at 28 _ [] rfl rfl rfl ?_)
    refine z_aload_n 0 dX7_pass_28 rfl (z_getR zc7 0 (by decide) rfl gw216 h0 (zW_some hW h0 0 rfl) dX7_pass_29 (z_iload_n 1 dX7_pass_32 rfl ?_))
    refine z_bind (fun r6 hb7 => ?_)
    refine z_callV (kc' := 1) (ks' := 6) (v := (some (.int r6.1))) (S1 := S) (w1 := r6.2) (st := []) [.int a1] (m_X1_letPass hW r4.2 (zr S a0 0) (zW_obj hW h0 0 1 rfl) a1 r6 hb7) zc1 (zW_obj hW h0 0 1 rfl) zy_X1_letPass gw880 gw881 gw879 (Nat.le_of_ble_eq_true rfl) (Nat.le_of_ble_eq_true rfl) (Nat.le_of_ble_eq_true rfl) (Nat.le_of_ble_eq_true rfl) (zal hW) rfl dX7_pass_33 (z_at 36 _ [.int r6.1] rfl rfl rfl ?_)
    refine z_if_ne 49 dX7_pass_36 rfl (fun q8 => ?_) (fun q8 => ?_)
    · refine z_aload_n 0 dX7_pass_49 rfl (z_getR zc7 3 (by decide) rfl gw219 h0 (zW_some hW h0 3 rfl) dX7_pass_50 ?_)
      refine z_bind (fun r9 hb10 => ?_)
      refine z_callV (kc' := 1) (ks' := 6) (v := none) (S1 := S) (w1 := r9.2) (st := []) [] (m_X2_keepDraft hW r6.2 (zr S a0 3) (zW_obj hW h0 3 2 rfl) r9 hb10) zc2 (zW_obj hW h0 3 2 rfl) zy_X2_keepDraft gw384 gw385 gw383 (Nat.le_of_ble_eq_true rfl) (Nat.le_of_ble_eq_true rfl) (Nat.le_of_ble_eq_true rfl) (Nat.le_of_ble_eq_true rfl) (zal hW) rfl dX7_pass_53 (z_at 56 _ [] rfl rfl rfl ?_)
      refine z_aload_n 0 dX7_pass_56 rfl (z_getR zc7 0 (by decide) rfl gw216 h0 (zW_some hW h0 0 rfl) dX7_pass_57 ?_)
      refine z_callV (kc' := 1) (ks' := 6) (v := (some (.int (f_X1_time S r9.2 (zr S a0 0))))) (S1 := S) (w1 := r9.2) (st := []) [] (m_X1_time hW r9.2 (zr S a0 0) (zW_obj hW h0 0 1 rfl)) zc1 (zW_obj hW h0 0 1 rfl) zy_X1_time gw885 gw886 gw884 (Nat.le_of_ble_eq_true rfl) (Nat.le_of_ble_eq_true rfl) (Nat.le_of_ble_eq_true rfl) (Nat.le_of_ble_eq_true rfl) (zal hW) rfl dX7_pass_60 (z_at 63 _ [.int (f_X1_time S r9.2 (zr S a0 0))] rfl rfl rfl ?_)
      exact z_iret zemX rfl dX7_pass_63
    · exact z_throw zx_ISE gw503 zt_RX7_223 (Nat.le_of_ble_eq_true rfl) (Nat.le_of_ble_eq_true rfl) (Nat.le_of_ble_eq_true rfl) rfl (Nat.le_of_ble_eq_true rfl) zemXr dX7_pass_39 dX7_pass_42 dX7_pass_43 dX7_pass_45 dX7_pass_48
  · exact z_throw zx_IAE gw427 zt_RX7_218 (Nat.le_of_ble_eq_true rfl) (Nat.le_of_ble_eq_true rfl) (Nat.le_of_ble_eq_true rfl) rfl (Nat.le_of_ble_eq_true rfl) zemXr dX7_pass_7 dX7_pass_10 dX7_pass_11 dX7_pass_13 dX7_pass_16

theorem m_X7_pass {E : ZE} {S : Zs} (hW : zWF S) (w : Zw) (a0 : Nat) (h0 : zObj S a0 7) (a1 : Int32) : ∀ i, f_X7_pass S w a0 a1 = some i → zMx E yX7_pass cX7_pass 2 ((some .int)) 10 1 6 [.ref a0, .int a1] S w ((emX eI S) i) :=
  fun i hi => z_enterX (by decide +kernel) (Nat.le_of_ble_eq_true rfl) (mw_X7_pass hW w a0 h0 a1 i hi)
/-! ParkingRobot$CommandText.letterHere ()I : P, depth 0 -/
abbrev i_X0_letterHere : Zm := (yX0_letterHere.cls, cX0_letterHere, 1, (some .int), [], yX0_letterHere.name)
def f_X0_letterHere (S : Zs) (w : Zw) (a0 : Nat) : Option (Int32) :=
  if (w a0 4) ≤ (w a0 5) then some (-1 : Int32) else if zin (w a0 5) (zlen S (zr S a0 0)) = true then some (w (zr S a0 0) (zix (w a0 5))) else none
theorem mw_X0_letterHere {E : ZE} {S : Zs} (hW : zWF S) (w : Zw) (a0 : Nat) (h0 : zObj S a0 0) : zOk (E, i_X0_letterHere, 0) 0 0 S w 0 [(0, .ref a0)] [] (emP eI S w) (f_X0_letterHere S w a0) := by
  unfold f_X0_letterHere
  refine z_aload_n 0 dX0_letterHere_0 rfl (z_getI zc0 5 (by decide) rfl gw198 h0 dX0_letterHere_1 (z_aload_n 0 dX0_letterHere_4 rfl (z_getI zc0 4 (by decide) rfl gw197 h0 dX0_letterHere_5 ?_)))
  refine z_icmp_ge 23 dX0_letterHere_8 rfl (fun q1 => ?_) (fun q1 => ?_)
  · refine z_iconst dX0_letterHere_23 zi_m1 ?_
    exact z_iret zemP rfl dX0_letterHere_24
  · refine z_aload_n 0 dX0_letterHere_11 rfl (z_getR zc0 0 (by decide) rfl gw193 h0 (zW_some hW h0 0 rfl) dX0_letterHere_12 (z_aload_n 0 dX0_letterHere_15 rfl (z_getI zc0 5 (by decide) rfl gw198 h0 dX0_letterHere_16 ?_)))
    refine z_chk (fun c2 => ?_)
    refine z_cald (zW_arr hW h0 0 2 rfl) c2 dX0_letterHere_19 (z_goto 24 dX0_letterHere_20 rfl ?_)
    exact z_iret zemP rfl dX0_letterHere_24

theorem m_X0_letterHere {E : ZE} {S : Zs} (hW : zWF S) (w : Zw) (a0 : Nat) (h0 : zObj S a0 0) : ∀ i, f_X0_letterHere S w a0 = some i → zMr E yX0_letterHere cX0_letterHere 1 ((some .int)) 0 0 0 [.ref a0] S w ((emP eI S w) i) :=
  fun i hi => z_enter (by decide +kernel) (Nat.le_of_ble_eq_true rfl) (mw_X0_letterHere hW w a0 h0 i hi)
/-! ParkingRobot$CommandText.readLetter (C)Z : W, depth 1 -/
abbrev i_X0_readLetter : Zm := (yX0_readLetter.cls, cX0_readLetter, 2, (some .boolean), [], yX0_readLetter.name)
def f_X0_readLetter (S : Zs) (w : Zw) (a0 : Nat) (a1 : Int32) : Option (Int32 × Zw) :=
  (f_X0_letterHere S w a0).bind fun v1 => if v1 = a1 then (zlet (zput w a0 5 ((w a0 5) + (1 : Int32))) fun w4 => some ((1 : Int32), w4)) else some ((0 : Int32), w)
theorem mw_X0_readLetter {E : ZE} {S : Zs} (hW : zWF S) (w : Zw) (a0 : Nat) (h0 : zObj S a0 0) (a1 : Int32) : zOk (E, i_X0_readLetter, 1) 0 0 S w 0 [(0, .ref a0), (1, .int a1)] [] (emW eI S) (f_X0_readLetter S w a0 a1) := by
  unfold f_X0_readLetter
  refine z_aload_n 0 dX0_readLetter_0 rfl ?_
  refine z_bind (fun v1 hb2 => ?_)
  refine z_callV (kc' := 0) (ks' := 0) (v := (some (.int v1))) (S1 := S) (w1 := w) (st := []) [] (m_X0_letterHere hW w a0 h0 v1 hb2) zc0 h0 zy_X0_letterHere gw1026 gp20 gw1024 (Nat.le_of_ble_eq_true rfl) (Nat.le_of_ble_eq_true rfl) (Nat.le_of_ble_eq_true rfl) (Nat.le_of_ble_eq_true rfl) (zal hW) rfl dX0_readLetter_1 (z_at 4 _ [.int v1] rfl rfl rfl ?_)
  refine z_iload_n 1 dX0_readLetter_4 rfl ?_
  refine z_icmp_eq 10 dX0_readLetter_5 rfl (fun q3 => ?_) (fun q3 => ?_)
  · refine z_aload_n 0 dX0_readLetter_10 rfl (z_dup dX0_readLetter_11 rfl (z_getI zc0 5 (by decide) rfl gw198 h0 dX0_readLetter_12 (z_iconst dX0_readLetter_15 zi_1 (z_iadd dX0_readLetter_16 ?_))))
    refine z_putI zc0 5 (by decide) (Or.inl rfl) rfl gw198 h0 dX0_readLetter_17 (z_letw (fun w4 => ?_))
    refine z_iconst dX0_readLetter_20 zi_1 ?_
    exact z_zret zemW rfl rfl dX0_readLetter_21
  · refine z_iconst dX0_readLetter_8 zi_0 ?_
    exact z_zret zemW rfl rfl dX0_readLetter_9

theorem m_X0_readLetter {E : ZE} {S : Zs} (hW : zWF S) (w : Zw) (a0 : Nat) (h0 : zObj S a0 0) (a1 : Int32) : ∀ i, f_X0_readLetter S w a0 a1 = some i → zMr E yX0_readLetter cX0_readLetter 2 ((some .boolean)) 1 0 0 [.ref a0, .int a1] S w ((emW eI S) i) :=
  fun i hi => z_enter (by decide +kernel) (Nat.le_of_ble_eq_true rfl) (mw_X0_readLetter hW w a0 h0 a1 i hi)
/-! ParkingRobot$CommandText.readSize (I)Z : W, depth 2 -/
abbrev i_X0_readSize : Zm := (yX0_readSize.cls, cX0_readSize, 3, (some .boolean), [], yX0_readSize.name)
def f_X0_readSize_j19 (S : Zs) (w : Zw) (x0 : Nat) (x1 : Int32) (x2 : Int32) : Option (Int32 × Zw) :=
  if zin x1 (zlen S (zr S x0 2)) = true then zlet (zput w (zr S x0 2) (zix x1) (x2 - (48 : Int32))) fun w5 => zlet (zput w5 x0 5 ((w5 x0 5) + (1 : Int32))) fun w6 => (f_X0_readLetter S w6 x0 (44 : Int32)).bind fun r7 => if zb1 r7.1 = true then some (r7.1, r7.2) else none else none
theorem m_X0_readSize_j19 {E : ZE} {S : Zs} (hW : zWF S) (w : Zw) (x0 : Nat) (hx0 : zObj S x0 0) (x1 : Int32) (x2 : Int32) : zOk (E, i_X0_readSize, 2) 0 0 S w 19 [(0, .ref x0), (1, .int x1), (2, .int x2)] [] (emW eI S) (f_X0_readSize_j19 S w x0 x1 x2) := by
  unfold f_X0_readSize_j19
  refine z_aload_n 0 dX0_readSize_19 rfl (z_getR zc0 2 (by decide) rfl gw195 hx0 (zW_some hW hx0 2 rfl) dX0_readSize_20 (z_iload_n 1 dX0_readSize_23 rfl (z_iload_n 2 dX0_readSize_24 rfl (z_bipush dX0_readSize_25 zb_48 (z_isub dX0_readSize_27 ?_)))))
  refine z_chk (fun c4 => ?_)
  refine z_iast (zW_arr hW hx0 2 0 rfl) c4 dX0_readSize_28 (z_letw (fun w5 => ?_))
  refine z_aload_n 0 dX0_readSize_29 rfl (z_dup dX0_readSize_30 rfl (z_getI zc0 5 (by decide) rfl gw198 hx0 dX0_readSize_31 (z_iconst dX0_readSize_34 zi_1 (z_iadd dX0_readSize_35 ?_))))
  refine z_putI zc0 5 (by decide) (Or.inl rfl) rfl gw198 hx0 dX0_readSize_36 (z_letw (fun w6 => ?_))
  refine z_aload_n 0 dX0_readSize_39 rfl (z_bipush dX0_readSize_40 zb_44 ?_)
  refine z_bind (fun r7 hb8 => ?_)
  refine z_callV (kc' := 0) (ks' := 0) (v := (some (.int r7.1))) (S1 := S) (w1 := r7.2) (st := []) [.int (44 : Int32)] (m_X0_readLetter hW w6 x0 hx0 (44 : Int32) r7 hb8) zc0 hx0 zy_X0_readLetter gw1034 gp22 gw1032 (Nat.le_of_ble_eq_true rfl) (Nat.le_of_ble_eq_true rfl) (Nat.le_of_ble_eq_true rfl) (Nat.le_of_ble_eq_true rfl) (zal hW) rfl dX0_readSize_42 (z_at 45 _ [.int r7.1] rfl rfl rfl ?_)
  refine z_chk (fun c9 => ?_)
  exact z_zret zemW rfl (zb1_nar c9) dX0_readSize_45

def f_X0_readSize (S : Zs) (w : Zw) (a0 : Nat) (a1 : Int32) : Option (Int32 × Zw) :=
  (f_X0_letterHere S w a0).bind fun v1 => if v1 = (48 : Int32) then f_X0_readSize_j19 S w a0 a1 v1  else if v1 = (49 : Int32) then f_X0_readSize_j19 S w a0 a1 v1  else some ((0 : Int32), w)
theorem mw_X0_readSize {E : ZE} {S : Zs} (hW : zWF S) (w : Zw) (a0 : Nat) (h0 : zObj S a0 0) (a1 : Int32) : zOk (E, i_X0_readSize, 2) 0 0 S w 0 [(0, .ref a0), (1, .int a1)] [] (emW eI S) (f_X0_readSize S w a0 a1) := by
  unfold f_X0_readSize
  refine z_aload_n 0 dX0_readSize_0 rfl ?_
  refine z_bind (fun v1 hb2 => ?_)
  refine z_callV (kc' := 0) (ks' := 0) (v := (some (.int v1))) (S1 := S) (w1 := w) (st := []) [] (m_X0_letterHere hW w a0 h0 v1 hb2) zc0 h0 zy_X0_letterHere gw1026 gp20 gw1024 (Nat.le_of_ble_eq_true rfl) (Nat.le_of_ble_eq_true rfl) (Nat.le_of_ble_eq_true rfl) (Nat.le_of_ble_eq_true rfl) (zal hW) rfl dX0_readSize_1 (z_at 4 _ [.int v1] rfl rfl rfl ?_)
  refine z_istore_n (lv' := [(2, .int v1), (0, .ref a0), (1, .int a1)]) dX0_readSize_4 (Nat.le_of_ble_eq_true rfl) rfl (z_iload_n 0 dX0_readSize_5 rfl (z_bipush dX0_readSize_6 zb_48 ?_))
  refine z_icmp_eq 19 dX0_readSize_8 rfl (fun q3 => ?_) (fun q3 => ?_)
  · refine z_sub (lv' := [(0, .ref a0), (1, .int a1), (2, .int v1)]) [1, 2, 0] rfl ?_
    refine z_pc (pc' := 19) rfl ?_
    exact m_X0_readSize_j19 hW w a0 h0 a1 v1 
  · refine z_iload_n 0 dX0_readSize_11 rfl (z_bipush dX0_readSize_12 zb_49 ?_)
    refine z_icmp_eq 19 dX0_readSize_14 rfl (fun q10 => ?_) (fun q10 => ?_)
    · refine z_sub (lv' := [(0, .ref a0), (1, .int a1), (2, .int v1)]) [1, 2, 0] rfl ?_
      refine z_pc (pc' := 19) rfl ?_
      exact m_X0_readSize_j19 hW w a0 h0 a1 v1 
    · refine z_iconst dX0_readSize_17 zi_0 ?_
      exact z_zret zemW rfl rfl dX0_readSize_18

theorem m_X0_readSize {E : ZE} {S : Zs} (hW : zWF S) (w : Zw) (a0 : Nat) (h0 : zObj S a0 0) (a1 : Int32) : ∀ i, f_X0_readSize S w a0 a1 = some i → zMr E yX0_readSize cX0_readSize 3 ((some .boolean)) 2 0 0 [.ref a0, .int a1] S w ((emW eI S) i) :=
  fun i hi => z_enter (by decide +kernel) (Nat.le_of_ble_eq_true rfl) (mw_X0_readSize hW w a0 h0 a1 i hi)
/-! ParkingRobot$CommandText.readNumber (I)Z : W, depth 1 -/
abbrev i_X0_readNumber : Zm := (yX0_readNumber.cls, cX0_readNumber, 4, (some .boolean), [], yX0_readNumber.name)
def f_X0_readNumber_j56 (S : Zs) (w : Zw) (x0 : Nat) (x1 : Int32) (x2 : Int32) (x3 : Int32) : Option (Int32 × Zw) :=
  if zin x1 (zlen S (zr S x0 3)) = true then zlet (zput w (zr S x0 3) (zix x1) x2) fun w3 => if x3 ≤ 0 then some ((0 : Int32), w3) else some ((1 : Int32), w3) else none
theorem m_X0_readNumber_j56 {E : ZE} {S : Zs} (hW : zWF S) (w : Zw) (x0 : Nat) (hx0 : zObj S x0 0) (x1 : Int32) (x2 : Int32) (x3 : Int32) : zOk (E, i_X0_readNumber, 1) 0 0 S w 56 [(0, .ref x0), (1, .int x1), (2, .int x2), (3, .int x3)] [] (emW eI S) (f_X0_readNumber_j56 S w x0 x1 x2 x3) := by
  unfold f_X0_readNumber_j56
  refine z_aload_n 0 dX0_readNumber_56 rfl (z_getR zc0 3 (by decide) rfl gw196 hx0 (zW_some hW hx0 3 rfl) dX0_readNumber_57 (z_iload_n 1 dX0_readNumber_60 rfl (z_iload_n 2 dX0_readNumber_61 rfl ?_)))
  refine z_chk (fun c2 => ?_)
  refine z_iast (zW_arr hW hx0 3 0 rfl) c2 dX0_readNumber_62 (z_letw (fun w3 => ?_))
  refine z_iload_n 3 dX0_readNumber_63 rfl ?_
  refine z_if_le 71 dX0_readNumber_64 rfl (fun q4 => ?_) (fun q4 => ?_)
  · refine z_iconst dX0_readNumber_71 zi_0 ?_
    exact z_zret zemW rfl rfl dX0_readNumber_72
  · refine z_iconst dX0_readNumber_67 zi_1 (z_goto 72 dX0_readNumber_68 rfl ?_)
    exact z_zret zemW rfl rfl dX0_readNumber_72

def f_X0_readNumber_b4 (S : Zs) (x0 : Nat) (x1 : Int32) (k : (Int32 × Int32 × Zw) → Option (Int32 × Zw)) (x2 : Int32) (x3 : Int32) (w : Zw) : Option (Int32 × Zw) :=
  if (4 : Int32) ≤ x3 then f_X0_readNumber_j56 S w x0 x1 x2 x3  else (f_X0_letterHere S w x0).bind fun v5 => if v5 < (48 : Int32) then f_X0_readNumber_j56 S w x0 x1 x2 x3  else (f_X0_letterHere S w x0).bind fun v8 => if (57 : Int32) < v8 then f_X0_readNumber_j56 S w x0 x1 x2 x3  else (f_X0_letterHere S w x0).bind fun v11 => zlet (((x2 * (10 : Int32)) + v11) - (48 : Int32)) fun z13 => zlet (zput w x0 5 ((w x0 5) + (1 : Int32))) fun w14 => k (z13, (x3 + (1 : Int32)), w14)
def f_X0_readNumber_l4 (S : Zs) (x0 : Nat) (x1 : Int32) (a : Int32 × Int32 × Zw) : Option (Int32 × Zw) :=
  zlp (fun k a => f_X0_readNumber_b4 S x0 x1 k a.1 a.2.1 a.2.2) zFU a
theorem m_X0_readNumber_l4 {E : ZE} {S : Zs} (hW : zWF S) (x0 : Nat) (hx0 : zObj S x0 0) (x1 : Int32) : ∀ a : Int32 × Int32 × Zw, zOk (E, i_X0_readNumber, 1) 0 0 S a.2.2 4 [(0, .ref x0), (1, .int x1), (2, .int a.1), (3, .int a.2.1)] [] (emW eI S) (f_X0_readNumber_l4 S x0 x1 a) := by
  intro a
  refine z_lp (P := fun _ => True) (W9 := fun a : Int32 × Int32 × Zw => a.2.2) (L9 := fun a : Int32 × Int32 × Zw => [(0, .ref x0), (1, .int x1), (2, .int a.1), (3, .int a.2.1)]) (T9 := fun _ => []) (fun k hk9 a _ => ?_) zFU a trivial
  have hk : ∀ a : Int32 × Int32 × Zw, zOk (E, i_X0_readNumber, 1) 0 0 S a.2.2 4 [(0, .ref x0), (1, .int x1), (2, .int a.1), (3, .int a.2.1)] [] (emW eI S) (k a) := fun a => hk9 a trivial
  clear hk9
  obtain ⟨x2, x3, w⟩ := a
  show zOk (E, i_X0_readNumber, 1) 0 0 S w 4 [(0, .ref x0), (1, .int x1), (2, .int x2), (3, .int x3)] [] (emW eI S) (f_X0_readNumber_b4 S x0 x1 k x2 x3 w)
  unfold f_X0_readNumber_b4
  refine z_iload_n 3 dX0_readNumber_4 rfl (z_iconst dX0_readNumber_5 zi_4 ?_)
  refine z_icmp_ge 56 dX0_readNumber_6 rfl (fun q1 => ?_) (fun q1 => ?_)
  · refine z_pc (pc' := 56) rfl ?_
    exact m_X0_readNumber_j56 hW w x0 hx0 x1 x2 x3 
  · refine z_aload_n 0 dX0_readNumber_9 rfl ?_
    refine z_bind (fun v5 hb6 => ?_)
    refine z_callV (kc' := 0) (ks' := 0) (v := (some (.int v5))) (S1 := S) (w1 := w) (st := []) [] (m_X0_letterHere hW w x0 hx0 v5 hb6) zc0 hx0 zy_X0_letterHere gw1026 gp20 gw1024 (Nat.le_of_ble_eq_true rfl) (Nat.le_of_ble_eq_true rfl) (Nat.le_of_ble_eq_true rfl) (Nat.le_of_ble_eq_true rfl) (zal hW) rfl dX0_readNumber_10 (z_at 13 _ [.int v5] rfl rfl rfl ?_)
    refine z_bipush dX0_readNumber_13 zb_48 ?_
    refine z_icmp_lt 56 dX0_readNumber_15 rfl (fun q7 => ?_) (fun q7 => ?_)
    · refine z_pc (pc' := 56) rfl ?_
      exact m_X0_readNumber_j56 hW w x0 hx0 x1 x2 x3 
    · refine z_aload_n 0 dX0_readNumber_18 rfl ?_
      refine z_bind (fun v8 hb9 => ?_)
      refine z_callV (kc' := 0) (ks' := 0) (v := (some (.int v8))) (S1 := S) (w1 := w) (st := []) [] (m_X0_letterHere hW w x0 hx0 v8 hb9) zc0 hx0 zy_X0_letterHere gw1026 gp20 gw1024 (Nat.le_of_ble_eq_true rfl) (Nat.le_of_ble_eq_true rfl) (Nat.le_of_ble_eq_true rfl) (Nat.le_of_ble_eq_true rfl) (zal hW) rfl dX0_readNumber_19 (z_at 22 _ [.int v8] rfl rfl rfl ?_)
      refine z_bipush dX0_readNumber_22 zb_57 ?_
      refine z_icmp_gt 56 dX0_readNumber_24 rfl (fun q10 => ?_) (fun q10 => ?_)
      · refine z_pc (pc' := 56) rfl ?_
        exact m_X0_readNumber_j56 hW w x0 hx0 x1 x2 x3 
      · refine z_iload_n 2 dX0_readNumber_27 rfl (z_bipush dX0_readNumber_28 zb_10 (z_imul dX0_readNumber_30 (z_aload_n 0 dX0_readNumber_31 rfl ?_)))
        refine z_bind (fun v11 hb12 => ?_)
        refine z_callV (kc' := 0) (ks' := 0) (v := (some (.int v11))) (S1 := S) (w1 := w) (st := [.int (x2 * (10 : Int32))]) [] (m_X0_letterHere hW w x0 hx0 v11 hb12) zc0 hx0 zy_X0_letterHere gw1026 gp20 gw1024 (Nat.le_of_ble_eq_true rfl) (Nat.le_of_ble_eq_true rfl) (Nat.le_of_ble_eq_true rfl) (Nat.le_of_ble_eq_true rfl) (zal hW) rfl dX0_readNumber_32 (z_at 35 _ [.int v11, .int (x2 * (10 : Int32))] rfl rfl rfl ?_)
        refine z_iadd dX0_readNumber_35 (z_bipush dX0_readNumber_36 zb_48 (z_isub dX0_readNumber_38 ?_))
        refine z_let (a := (((x2 * (10 : Int32)) + v11) - (48 : Int32))) (fun z13 => [(0, .ref x0), (1, .int x1), (2, .int x2), (3, .int x3)]) (fun z13 => .int z13 :: []) (fun z13 => ?_)
        refine z_istore_n (lv' := [(2, .int z13), (0, .ref x0), (1, .int x1), (3, .int x3)]) dX0_readNumber_39 (Nat.le_of_ble_eq_true rfl) rfl (z_aload_n 1 dX0_readNumber_40 rfl (z_dup dX0_readNumber_41 rfl (z_getI zc0 5 (by decide) rfl gw198 hx0 dX0_readNumber_42 (z_iconst dX0_readNumber_45 zi_1 (z_iadd dX0_readNumber_46 ?_)))))
        refine z_putI zc0 5 (by decide) (Or.inl rfl) rfl gw198 hx0 dX0_readNumber_47 (z_letw (fun w14 => ?_))
        refine z_iinc (v := (x3 + (1 : Int32))) (lv' := [(3, .int (x3 + (1 : Int32))), (2, .int z13), (0, .ref x0), (1, .int x1)]) 3 dX0_readNumber_50 rfl (zi_inc _ zi_1) (Nat.le_of_ble_eq_true rfl) rfl (z_goto 4 dX0_readNumber_53 rfl ?_)
        refine z_sub (lv' := [(0, .ref x0), (1, .int x1), (2, .int z13), (3, .int (x3 + (1 : Int32)))]) [2, 3, 1, 0] rfl ?_
        refine z_pc (pc' := 4) rfl ?_
        exact hk (z13, (x3 + (1 : Int32)), w14)

def f_X0_readNumber (S : Zs) (w : Zw) (a0 : Nat) (a1 : Int32) : Option (Int32 × Zw) :=
  f_X0_readNumber_l4 S a0 a1 ((0 : Int32), (0 : Int32), w)
theorem mw_X0_readNumber {E : ZE} {S : Zs} (hW : zWF S) (w : Zw) (a0 : Nat) (h0 : zObj S a0 0) (a1 : Int32) : zOk (E, i_X0_readNumber, 1) 0 0 S w 0 [(0, .ref a0), (1, .int a1)] [] (emW eI S) (f_X0_readNumber S w a0 a1) := by
  unfold f_X0_readNumber
  refine z_iconst dX0_readNumber_0 zi_0 (z_istore_n (lv' := [(2, .int (0 : Int32)), (0, .ref a0), (1, .int a1)]) dX0_readNumber_1 (Nat.le_of_ble_eq_true rfl) rfl (z_iconst dX0_readNumber_2 zi_0 (z_istore_n (lv' := [(3, .int (0 : Int32)), (2, .int (0 : Int32)), (0, .ref a0), (1, .int a1)]) dX0_readNumber_3 (Nat.le_of_ble_eq_true rfl) rfl ?_)))
  refine z_sub (lv' := [(0, .ref a0), (1, .int a1), (2, .int (0 : Int32)), (3, .int (0 : Int32))]) [2, 3, 1, 0] rfl ?_
  refine z_pc (pc' := 4) rfl ?_
  exact m_X0_readNumber_l4 hW a0 h0 a1 ((0 : Int32), (0 : Int32), w)

theorem m_X0_readNumber {E : ZE} {S : Zs} (hW : zWF S) (w : Zw) (a0 : Nat) (h0 : zObj S a0 0) (a1 : Int32) : ∀ i, f_X0_readNumber S w a0 a1 = some i → zMr E yX0_readNumber cX0_readNumber 4 ((some .boolean)) 1 0 0 [.ref a0, .int a1] S w ((emW eI S) i) :=
  fun i hi => z_enter (by decide +kernel) (Nat.le_of_ble_eq_true rfl) (mw_X0_readNumber hW w a0 h0 a1 i hi)
/-! ParkingRobot$CommandText.readCommand (I)Z : W, depth 3 -/
abbrev i_X0_readCommand : Zm := (yX0_readCommand.cls, cX0_readCommand, 3, (some .boolean), [], yX0_readCommand.name)
def f_X0_readCommand_j69 (S : Zs) (w : Zw) (x0 : Nat) (x1 : Int32) : Option (Int32 × Zw) :=
  (f_X0_readNumber S w x0 x1).bind fun r8 => if r8.1 = 0 then some ((0 : Int32), r8.2) else (f_X0_readLetter S r8.2 x0 (59 : Int32)).bind fun r11 => if r11.1 = 0 then some ((0 : Int32), r11.2) else some ((1 : Int32), r11.2)
theorem m_X0_readCommand_j69 {E : ZE} {S : Zs} (hW : zWF S) (w : Zw) (x0 : Nat) (hx0 : zObj S x0 0) (x1 : Int32) : zOk (E, i_X0_readCommand, 3) 0 0 S w 69 [(0, .ref x0), (1, .int x1)] [] (emW eI S) (f_X0_readCommand_j69 S w x0 x1) := by
  unfold f_X0_readCommand_j69
  refine z_aload_n 0 dX0_readCommand_69 rfl (z_iload_n 1 dX0_readCommand_70 rfl ?_)
  refine z_bind (fun r8 hb9 => ?_)
  refine z_callV (kc' := 0) (ks' := 0) (v := (some (.int r8.1))) (S1 := S) (w1 := r8.2) (st := []) [.int x1] (m_X0_readNumber hW w x0 hx0 x1 r8 hb9) zc0 hx0 zy_X0_readNumber gw1038 gp23 gw1036 (Nat.le_of_ble_eq_true rfl) (Nat.le_of_ble_eq_true rfl) (Nat.le_of_ble_eq_true rfl) (Nat.le_of_ble_eq_true rfl) (zal hW) rfl dX0_readCommand_71 (z_at 74 _ [.int r8.1] rfl rfl rfl ?_)
  refine z_if_eq 90 dX0_readCommand_74 rfl (fun q10 => ?_) (fun q10 => ?_)
  · refine z_iconst dX0_readCommand_90 zi_0 ?_
    exact z_zret zemW rfl rfl dX0_readCommand_91
  · refine z_aload_n 0 dX0_readCommand_77 rfl (z_bipush dX0_readCommand_78 zb_59 ?_)
    refine z_bind (fun r11 hb12 => ?_)
    refine z_callV (kc' := 0) (ks' := 0) (v := (some (.int r11.1))) (S1 := S) (w1 := r11.2) (st := []) [.int (59 : Int32)] (m_X0_readLetter hW r8.2 x0 hx0 (59 : Int32) r11 hb12) zc0 hx0 zy_X0_readLetter gw1034 gp22 gw1032 (Nat.le_of_ble_eq_true rfl) (Nat.le_of_ble_eq_true rfl) (Nat.le_of_ble_eq_true rfl) (Nat.le_of_ble_eq_true rfl) (zal hW) rfl dX0_readCommand_80 (z_at 83 _ [.int r11.1] rfl rfl rfl ?_)
    refine z_if_eq 90 dX0_readCommand_83 rfl (fun q13 => ?_) (fun q13 => ?_)
    · refine z_iconst dX0_readCommand_90 zi_0 ?_
      exact z_zret zemW rfl rfl dX0_readCommand_91
    · refine z_iconst dX0_readCommand_86 zi_1 (z_goto 91 dX0_readCommand_87 rfl ?_)
      exact z_zret zemW rfl rfl dX0_readCommand_91

def f_X0_readCommand_j37 (S : Zs) (w : Zw) (x0 : Nat) (x1 : Int32) (x2 : Int32) : Option (Int32 × Zw) :=
  if zin x1 (zlen S (zr S x0 1)) = true then zlet (zput w (zr S x0 1) (zix x1) (vp_nar .char (zi2c (x2)))) fun w5 => zlet (zput w5 x0 5 ((w5 x0 5) + (1 : Int32))) fun w6 => if x2 = (115 : Int32) then (f_X0_readSize S w6 x0 x1).bind fun r14 => if r14.1 = 0 then some ((0 : Int32), r14.2) else f_X0_readCommand_j69 S r14.2 x0 x1  else f_X0_readCommand_j69 S w6 x0 x1  else none
theorem m_X0_readCommand_j37 {E : ZE} {S : Zs} (hW : zWF S) (w : Zw) (x0 : Nat) (hx0 : zObj S x0 0) (x1 : Int32) (x2 : Int32) : zOk (E, i_X0_readCommand, 3) 0 0 S w 37 [(0, .ref x0), (1, .int x1), (2, .int x2)] [] (emW eI S) (f_X0_readCommand_j37 S w x0 x1 x2) := by
  unfold f_X0_readCommand_j37
  refine z_aload_n 0 dX0_readCommand_37 rfl (z_getR zc0 1 (by decide) rfl gw194 hx0 (zW_some hW hx0 1 rfl) dX0_readCommand_38 (z_iload_n 1 dX0_readCommand_41 rfl (z_iload_n 2 dX0_readCommand_42 rfl (z_i2c (v := (zi2c (x2))) dX0_readCommand_43 rfl ?_))))
  refine z_chk (fun c4 => ?_)
  refine z_cast (zW_arr hW hx0 1 2 rfl) c4 dX0_readCommand_44 (z_letw (fun w5 => ?_))
  refine z_aload_n 0 dX0_readCommand_45 rfl (z_dup dX0_readCommand_46 rfl (z_getI zc0 5 (by decide) rfl gw198 hx0 dX0_readCommand_47 (z_iconst dX0_readCommand_50 zi_1 (z_iadd dX0_readCommand_51 ?_))))
  refine z_putI zc0 5 (by decide) (Or.inl rfl) rfl gw198 hx0 dX0_readCommand_52 (z_letw (fun w6 => ?_))
  refine z_iload_n 2 dX0_readCommand_55 rfl (z_bipush dX0_readCommand_56 zb_115 ?_)
  refine z_icmp_ne 69 dX0_readCommand_58 rfl (fun q7 => ?_) (fun q7 => ?_)
  · refine z_sub (lv' := [(0, .ref x0), (1, .int x1)]) [0, 1] rfl ?_
    refine z_pc (pc' := 69) rfl ?_
    exact m_X0_readCommand_j69 hW w6 x0 hx0 x1 
  · refine z_aload_n 0 dX0_readCommand_61 rfl (z_iload_n 1 dX0_readCommand_62 rfl ?_)
    refine z_bind (fun r14 hb15 => ?_)
    refine z_callV (kc' := 0) (ks' := 0) (v := (some (.int r14.1))) (S1 := S) (w1 := r14.2) (st := []) [.int x1] (m_X0_readSize hW w6 x0 hx0 x1 r14 hb15) zc0 hx0 zy_X0_readSize gw1030 gp21 gw1028 (Nat.le_of_ble_eq_true rfl) (Nat.le_of_ble_eq_true rfl) (Nat.le_of_ble_eq_true rfl) (Nat.le_of_ble_eq_true rfl) (zal hW) rfl dX0_readCommand_63 (z_at 66 _ [.int r14.1] rfl rfl rfl ?_)
    refine z_if_eq 90 dX0_readCommand_66 rfl (fun q16 => ?_) (fun q16 => ?_)
    · refine z_iconst dX0_readCommand_90 zi_0 ?_
      exact z_zret zemW rfl rfl dX0_readCommand_91
    · refine z_sub (lv' := [(0, .ref x0), (1, .int x1)]) [0, 1] rfl ?_
      refine z_pc (pc' := 69) rfl ?_
      exact m_X0_readCommand_j69 hW r14.2 x0 hx0 x1 

def f_X0_readCommand (S : Zs) (w : Zw) (a0 : Nat) (a1 : Int32) : Option (Int32 × Zw) :=
  (f_X0_letterHere S w a0).bind fun v1 => if v1 = (115 : Int32) then f_X0_readCommand_j37 S w a0 a1 v1  else if v1 = (114 : Int32) then f_X0_readCommand_j37 S w a0 a1 v1  else if v1 = (116 : Int32) then f_X0_readCommand_j37 S w a0 a1 v1  else if v1 = (99 : Int32) then f_X0_readCommand_j37 S w a0 a1 v1  else if v1 = (111 : Int32) then f_X0_readCommand_j37 S w a0 a1 v1  else some ((0 : Int32), w)
theorem mw_X0_readCommand {E : ZE} {S : Zs} (hW : zWF S) (w : Zw) (a0 : Nat) (h0 : zObj S a0 0) (a1 : Int32) : zOk (E, i_X0_readCommand, 3) 0 0 S w 0 [(0, .ref a0), (1, .int a1)] [] (emW eI S) (f_X0_readCommand S w a0 a1) := by
  unfold f_X0_readCommand
  refine z_aload_n 0 dX0_readCommand_0 rfl ?_
  refine z_bind (fun v1 hb2 => ?_)
  refine z_callV (kc' := 0) (ks' := 0) (v := (some (.int v1))) (S1 := S) (w1 := w) (st := []) [] (m_X0_letterHere hW w a0 h0 v1 hb2) zc0 h0 zy_X0_letterHere gw1026 gp20 gw1024 (Nat.le_of_ble_eq_true rfl) (Nat.le_of_ble_eq_true rfl) (Nat.le_of_ble_eq_true rfl) (Nat.le_of_ble_eq_true rfl) (zal hW) rfl dX0_readCommand_1 (z_at 4 _ [.int v1] rfl rfl rfl ?_)
  refine z_istore_n (lv' := [(2, .int v1), (0, .ref a0), (1, .int a1)]) dX0_readCommand_4 (Nat.le_of_ble_eq_true rfl) rfl (z_iload_n 0 dX0_readCommand_5 rfl (z_bipush dX0_readCommand_6 zb_115 ?_))
  refine z_icmp_eq 37 dX0_readCommand_8 rfl (fun q3 => ?_) (fun q3 => ?_)
  · refine z_sub (lv' := [(0, .ref a0), (1, .int a1), (2, .int v1)]) [1, 2, 0] rfl ?_
    refine z_pc (pc' := 37) rfl ?_
    exact m_X0_readCommand_j37 hW w a0 h0 a1 v1 
  · refine z_iload_n 0 dX0_readCommand_11 rfl (z_bipush dX0_readCommand_12 zb_114 ?_)
    refine z_icmp_eq 37 dX0_readCommand_14 rfl (fun q17 => ?_) (fun q17 => ?_)
    · refine z_sub (lv' := [(0, .ref a0), (1, .int a1), (2, .int v1)]) [1, 2, 0] rfl ?_
      refine z_pc (pc' := 37) rfl ?_
      exact m_X0_readCommand_j37 hW w a0 h0 a1 v1 
    · refine z_iload_n 0 dX0_readCommand_17 rfl (z_bipush dX0_readCommand_18 zb_116 ?_)
      refine z_icmp_eq 37 dX0_readCommand_20 rfl (fun q18 => ?_) (fun q18 => ?_)
      · refine z_sub (lv' := [(0, .ref a0), (1, .int a1), (2, .int v1)]) [1, 2, 0] rfl ?_
        refine z_pc (pc' := 37) rfl ?_
        exact m_X0_readCommand_j37 hW w a0 h0 a1 v1 
      · refine z_iload_n 0 dX0_readCommand_23 rfl (z_bipush dX0_readCommand_24 zb_99 ?_)
        refine z_icmp_eq 37 dX0_readCommand_26 rfl (fun q19 => ?_) (fun q19 => ?_)
        · refine z_sub (lv' := [(0, .ref a0), (1, .int a1), (2, .int v1)]) [1, 2, 0] rfl ?_
          refine z_pc (pc' := 37) rfl ?_
          exact m_X0_readCommand_j37 hW w a0 h0 a1 v1 
        · refine z_iload_n 0 dX0_readCommand_29 rfl (z_bipush dX0_readCommand_30 zb_111 ?_)
          refine z_icmp_eq 37 dX0_readCommand_32 rfl (fun q20 => ?_) (fun q20 => ?_)
          · refine z_sub (lv' := [(0, .ref a0), (1, .int a1), (2, .int v1)]) [1, 2, 0] rfl ?_
            refine z_pc (pc' := 37) rfl ?_
            exact m_X0_readCommand_j37 hW w a0 h0 a1 v1 
          · refine z_iconst dX0_readCommand_35 zi_0 ?_
            exact z_zret zemW rfl rfl dX0_readCommand_36

theorem m_X0_readCommand {E : ZE} {S : Zs} (hW : zWF S) (w : Zw) (a0 : Nat) (h0 : zObj S a0 0) (a1 : Int32) : ∀ i, f_X0_readCommand S w a0 a1 = some i → zMr E yX0_readCommand cX0_readCommand 3 ((some .boolean)) 3 0 0 [.ref a0, .int a1] S w ((emW eI S) i) :=
  fun i hi => z_enter (by decide +kernel) (Nat.le_of_ble_eq_true rfl) (mw_X0_readCommand hW w a0 h0 a1 i hi)
/-! ParkingRobot$CommandText.parse ()I : W, depth 4 -/
abbrev i_X0_parse : Zm := (yX0_parse.cls, cX0_parse, 2, (some .int), [], yX0_parse.name)
def f_X0_parse_j33 (S : Zs) (w : Zw) (x0 : Nat) (x1 : Int32) (k12 : (Int32 × Zw) → Option (Int32 × Zw)) : Option (Int32 × Zw) :=
  (f_X0_readCommand S w x0 x1).bind fun r5 => if r5.1 = 0 then some ((r5.2 x0 5), r5.2) else (zlet (zput r5.2 x0 6 ((r5.2 x0 6) + (1 : Int32))) fun w8 => k12 ((x1 + (1 : Int32)), w8))
theorem m_X0_parse_j33 {E : ZE} {S : Zs} (hW : zWF S) (w : Zw) (x0 : Nat) (hx0 : zObj S x0 0) (x1 : Int32) (k12 : (Int32 × Zw) → Option (Int32 × Zw)) (hk12 : ∀ a : Int32 × Zw, zOk (E, i_X0_parse, 4) 0 0 S a.2 12 [(0, .ref x0), (1, .int a.1)] [] (emW eI S) (k12 a)) : zOk (E, i_X0_parse, 4) 0 0 S w 33 [(0, .ref x0), (1, .int x1)] [] (emW eI S) (f_X0_parse_j33 S w x0 x1 k12) := by
  unfold f_X0_parse_j33
  refine z_aload_n 0 dX0_parse_33 rfl (z_iload_n 1 dX0_parse_34 rfl ?_)
  refine z_bind (fun r5 hb6 => ?_)
  refine z_callV (kc' := 0) (ks' := 0) (v := (some (.int r5.1))) (S1 := S) (w1 := r5.2) (st := []) [.int x1] (m_X0_readCommand hW w x0 hx0 x1 r5 hb6) zc0 hx0 zy_X0_readCommand gw1022 gp19 gw1020 (Nat.le_of_ble_eq_true rfl) (Nat.le_of_ble_eq_true rfl) (Nat.le_of_ble_eq_true rfl) (Nat.le_of_ble_eq_true rfl) (zal hW) rfl dX0_parse_35 (z_at 38 _ [.int r5.1] rfl rfl rfl ?_)
  refine z_if_ne 46 dX0_parse_38 rfl (fun q7 => ?_) (fun q7 => ?_)
  · refine z_aload_n 0 dX0_parse_46 rfl (z_dup dX0_parse_47 rfl (z_getI zc0 6 (by decide) rfl gw199 hx0 dX0_parse_48 (z_iconst dX0_parse_51 zi_1 (z_iadd dX0_parse_52 ?_))))
    refine z_putI zc0 6 (by decide) (Or.inl rfl) rfl gw199 hx0 dX0_parse_53 (z_letw (fun w8 => ?_))
    refine z_iinc (v := (x1 + (1 : Int32))) (lv' := [(1, .int (x1 + (1 : Int32))), (0, .ref x0)]) 1 dX0_parse_56 rfl (zi_inc _ zi_1) (Nat.le_of_ble_eq_true rfl) rfl (z_goto 12 dX0_parse_59 rfl ?_)
    refine z_sub (lv' := [(0, .ref x0), (1, .int (x1 + (1 : Int32)))]) [1, 0] rfl ?_
    refine z_pc (pc' := 12) rfl ?_
    exact hk12 ((x1 + (1 : Int32)), w8)
  · refine z_aload_n 0 dX0_parse_41 rfl (z_getI zc0 5 (by decide) rfl gw198 hx0 dX0_parse_42 ?_)
    exact z_iret zemW rfl dX0_parse_45

def f_X0_parse_b12 (S : Zs) (x0 : Nat) (k : (Int32 × Zw) → Option (Int32 × Zw)) (x1 : Int32) (w : Zw) : Option (Int32 × Zw) :=
  if (20 : Int32) ≤ x1 then some ((-1 : Int32), w) else if x1 = 0 then f_X0_parse_j33 S w x0 x1 k  else if (w x0 4) ≤ (w x0 5) then some ((-1 : Int32), w) else f_X0_parse_j33 S w x0 x1 k 
def f_X0_parse_l12 (S : Zs) (x0 : Nat) (a : Int32 × Zw) : Option (Int32 × Zw) :=
  zlp (fun k a => f_X0_parse_b12 S x0 k a.1 a.2) zFU a
theorem m_X0_parse_l12 {E : ZE} {S : Zs} (hW : zWF S) (x0 : Nat) (hx0 : zObj S x0 0) : ∀ a : Int32 × Zw, zOk (E, i_X0_parse, 4) 0 0 S a.2 12 [(0, .ref x0), (1, .int a.1)] [] (emW eI S) (f_X0_parse_l12 S x0 a) := by
  intro a
  refine z_lp (P := fun _ => True) (W9 := fun a : Int32 × Zw => a.2) (L9 := fun a : Int32 × Zw => [(0, .ref x0), (1, .int a.1)]) (T9 := fun _ => []) (fun k hk9 a _ => ?_) zFU a trivial
  have hk : ∀ a : Int32 × Zw, zOk (E, i_X0_parse, 4) 0 0 S a.2 12 [(0, .ref x0), (1, .int a.1)] [] (emW eI S) (k a) := fun a => hk9 a trivial
  clear hk9
  obtain ⟨x1, w⟩ := a
  show zOk (E, i_X0_parse, 4) 0 0 S w 12 [(0, .ref x0), (1, .int x1)] [] (emW eI S) (f_X0_parse_b12 S x0 k x1 w)
  unfold f_X0_parse_b12
  refine z_iload_n 1 dX0_parse_12 rfl (z_bipush dX0_parse_13 zb_20 ?_)
  refine z_icmp_ge 62 dX0_parse_15 rfl (fun q3 => ?_) (fun q3 => ?_)
  · refine z_iconst dX0_parse_62 zi_m1 ?_
    exact z_iret zemW rfl dX0_parse_63
  · refine z_iload_n 1 dX0_parse_18 rfl ?_
    refine z_if_eq 33 dX0_parse_19 rfl (fun q4 => ?_) (fun q4 => ?_)
    · refine z_pc (pc' := 33) rfl ?_
      exact m_X0_parse_j33 hW w x0 hx0 x1 k hk 
    · refine z_aload_n 0 dX0_parse_22 rfl (z_getI zc0 5 (by decide) rfl gw198 hx0 dX0_parse_23 (z_aload_n 0 dX0_parse_26 rfl (z_getI zc0 4 (by decide) rfl gw197 hx0 dX0_parse_27 ?_)))
      refine z_icmp_ge 62 dX0_parse_30 rfl (fun q9 => ?_) (fun q9 => ?_)
      · refine z_iconst dX0_parse_62 zi_m1 ?_
        exact z_iret zemW rfl dX0_parse_63
      · refine z_pc (pc' := 33) rfl ?_
        exact m_X0_parse_j33 hW w x0 hx0 x1 k hk 

def f_X0_parse (S : Zs) (w : Zw) (a0 : Nat) : Option (Int32 × Zw) :=
  zlet (zput w a0 5 (0 : Int32)) fun w1 => zlet (zput w1 a0 6 (0 : Int32)) fun w2 => f_X0_parse_l12 S a0 ((0 : Int32), w2)
theorem mw_X0_parse {E : ZE} {S : Zs} (hW : zWF S) (w : Zw) (a0 : Nat) (h0 : zObj S a0 0) : zOk (E, i_X0_parse, 4) 0 0 S w 0 [(0, .ref a0)] [] (emW eI S) (f_X0_parse S w a0) := by
  unfold f_X0_parse
  refine z_aload_n 0 dX0_parse_0 rfl (z_iconst dX0_parse_1 zi_0 ?_)
  refine z_putI zc0 5 (by decide) (Or.inl rfl) rfl gw198 h0 dX0_parse_2 (z_letw (fun w1 => ?_))
  refine z_aload_n 0 dX0_parse_5 rfl (z_iconst dX0_parse_6 zi_0 ?_)
  refine z_putI zc0 6 (by decide) (Or.inl rfl) rfl gw199 h0 dX0_parse_7 (z_letw (fun w2 => ?_))
  refine z_iconst dX0_parse_10 zi_0 (z_istore_n (lv' := [(1, .int (0 : Int32)), (0, .ref a0)]) dX0_parse_11 (Nat.le_of_ble_eq_true rfl) rfl ?_)
  refine z_sub (lv' := [(0, .ref a0), (1, .int (0 : Int32))]) [1, 0] rfl ?_
  refine z_pc (pc' := 12) rfl ?_
  exact m_X0_parse_l12 hW a0 h0 ((0 : Int32), w2)

theorem m_X0_parse {E : ZE} {S : Zs} (hW : zWF S) (w : Zw) (a0 : Nat) (h0 : zObj S a0 0) : ∀ i, f_X0_parse S w a0 = some i → zMr E yX0_parse cX0_parse 2 ((some .int)) 4 0 0 [.ref a0] S w ((emW eI S) i) :=
  fun i hi => z_enter (by decide +kernel) (Nat.le_of_ble_eq_true rfl) (mw_X0_parse hW w a0 h0 i hi)
/-! ParkingRobot$CommandText.empty ()V : W, depth 0 -/
abbrev i_X0_empty : Zm := (yX0_empty.cls, cX0_empty, 1, none, [], yX0_empty.name)
def f_X0_empty (S : Zs) (w : Zw) (a0 : Nat) : Option (Unit × Zw) :=
  zlet (zput w a0 4 (0 : Int32)) fun w1 => some ((), w1)
theorem mw_X0_empty {E : ZE} {S : Zs} (hW : zWF S) (w : Zw) (a0 : Nat) (h0 : zObj S a0 0) : zOk (E, i_X0_empty, 0) 0 0 S w 0 [(0, .ref a0)] [] (emW eU S) (f_X0_empty S w a0) := by
  unfold f_X0_empty
  refine z_aload_n 0 dX0_empty_0 rfl (z_iconst dX0_empty_1 zi_0 ?_)
  refine z_putI zc0 4 (by decide) (Or.inl rfl) rfl gw197 h0 dX0_empty_2 (z_letw (fun w1 => ?_))
  exact z_vret zemW rfl dX0_empty_5

theorem m_X0_empty {E : ZE} {S : Zs} (hW : zWF S) (w : Zw) (a0 : Nat) (h0 : zObj S a0 0) : ∀ i, f_X0_empty S w a0 = some i → zMr E yX0_empty cX0_empty 1 none 0 0 0 [.ref a0] S w ((emW eU S) i) :=
  fun i hi => z_enter (by decide +kernel) (Nat.le_of_ble_eq_true rfl) (mw_X0_empty hW w a0 h0 i hi)
/-! ParkingRobot$CommandText.commands ()I : T, depth 0 -/
abbrev i_X0_commands : Zm := (yX0_commands.cls, cX0_commands, 1, (some .int), [], yX0_commands.name)
def f_X0_commands (S : Zs) (w : Zw) (a0 : Nat) : Int32 :=
  (w a0 6)
theorem mw_X0_commands {E : ZE} {S : Zs} (hW : zWF S) (w : Zw) (a0 : Nat) (h0 : zObj S a0 0) : zOk (E, i_X0_commands, 0) 0 0 S w 0 [(0, .ref a0)] [] (emP eI S w) (some (f_X0_commands S w a0)) := by
  unfold f_X0_commands
  refine z_aload_n 0 dX0_commands_0 rfl (z_getI zc0 6 (by decide) rfl gw199 h0 dX0_commands_1 ?_)
  exact z_iret zemP rfl dX0_commands_4

theorem m_X0_commands {E : ZE} {S : Zs} (hW : zWF S) (w : Zw) (a0 : Nat) (h0 : zObj S a0 0) : zMr E yX0_commands cX0_commands 1 ((some .int)) 0 0 0 [.ref a0] S w (.inl (eI (f_X0_commands S w a0)), S, w) :=
  z_enter (by decide +kernel) (Nat.le_of_ble_eq_true rfl) (mw_X0_commands hW w a0 h0 _ rfl)
/-! ParkingRobot$CommandText.kindOf (I)C : P, depth 0 -/
abbrev i_X0_kindOf : Zm := (yX0_kindOf.cls, cX0_kindOf, 2, (some .char), [], yX0_kindOf.name)
def f_X0_kindOf (S : Zs) (w : Zw) (a0 : Nat) (a1 : Int32) : Option (Int32) :=
  if zin a1 (zlen S (zr S a0 1)) = true then if zch (w (zr S a0 1) (zix a1)) = true then some (w (zr S a0 1) (zix a1)) else none else none
theorem mw_X0_kindOf {E : ZE} {S : Zs} (hW : zWF S) (w : Zw) (a0 : Nat) (h0 : zObj S a0 0) (a1 : Int32) : zOk (E, i_X0_kindOf, 0) 0 0 S w 0 [(0, .ref a0), (1, .int a1)] [] (emP eI S w) (f_X0_kindOf S w a0 a1) := by
  unfold f_X0_kindOf
  refine z_aload_n 0 dX0_kindOf_0 rfl (z_getR zc0 1 (by decide) rfl gw194 h0 (zW_some hW h0 1 rfl) dX0_kindOf_1 (z_iload_n 1 dX0_kindOf_4 rfl ?_))
  refine z_chk (fun c1 => ?_)
  refine z_cald (zW_arr hW h0 1 2 rfl) c1 dX0_kindOf_5 ?_
  refine z_chk (fun c2 => ?_)
  exact z_zret zemP rfl (zch_nar c2) dX0_kindOf_6

theorem m_X0_kindOf {E : ZE} {S : Zs} (hW : zWF S) (w : Zw) (a0 : Nat) (h0 : zObj S a0 0) (a1 : Int32) : ∀ i, f_X0_kindOf S w a0 a1 = some i → zMr E yX0_kindOf cX0_kindOf 2 ((some .char)) 0 0 0 [.ref a0, .int a1] S w ((emP eI S w) i) :=
  fun i hi => z_enter (by decide +kernel) (Nat.le_of_ble_eq_true rfl) (mw_X0_kindOf hW w a0 h0 a1 i hi)
/-! ParkingRobot$CommandText.sizeOf (I)I : P, depth 0 -/
abbrev i_X0_sizeOf : Zm := (yX0_sizeOf.cls, cX0_sizeOf, 2, (some .int), [], yX0_sizeOf.name)
def f_X0_sizeOf (S : Zs) (w : Zw) (a0 : Nat) (a1 : Int32) : Option (Int32) :=
  if zin a1 (zlen S (zr S a0 2)) = true then some (w (zr S a0 2) (zix a1)) else none
theorem mw_X0_sizeOf {E : ZE} {S : Zs} (hW : zWF S) (w : Zw) (a0 : Nat) (h0 : zObj S a0 0) (a1 : Int32) : zOk (E, i_X0_sizeOf, 0) 0 0 S w 0 [(0, .ref a0), (1, .int a1)] [] (emP eI S w) (f_X0_sizeOf S w a0 a1) := by
  unfold f_X0_sizeOf
  refine z_aload_n 0 dX0_sizeOf_0 rfl (z_getR zc0 2 (by decide) rfl gw195 h0 (zW_some hW h0 2 rfl) dX0_sizeOf_1 (z_iload_n 1 dX0_sizeOf_4 rfl ?_))
  refine z_chk (fun c1 => ?_)
  refine z_iald (zW_arr hW h0 2 0 rfl) c1 dX0_sizeOf_5 ?_
  exact z_iret zemP rfl dX0_sizeOf_6

theorem m_X0_sizeOf {E : ZE} {S : Zs} (hW : zWF S) (w : Zw) (a0 : Nat) (h0 : zObj S a0 0) (a1 : Int32) : ∀ i, f_X0_sizeOf S w a0 a1 = some i → zMr E yX0_sizeOf cX0_sizeOf 2 ((some .int)) 0 0 0 [.ref a0, .int a1] S w ((emP eI S w) i) :=
  fun i hi => z_enter (by decide +kernel) (Nat.le_of_ble_eq_true rfl) (mw_X0_sizeOf hW w a0 h0 a1 i hi)
/-! ParkingRobot$CommandText.numberOf (I)I : P, depth 0 -/
abbrev i_X0_numberOf : Zm := (yX0_numberOf.cls, cX0_numberOf, 2, (some .int), [], yX0_numberOf.name)
def f_X0_numberOf (S : Zs) (w : Zw) (a0 : Nat) (a1 : Int32) : Option (Int32) :=
  if zin a1 (zlen S (zr S a0 3)) = true then some (w (zr S a0 3) (zix a1)) else none
theorem mw_X0_numberOf {E : ZE} {S : Zs} (hW : zWF S) (w : Zw) (a0 : Nat) (h0 : zObj S a0 0) (a1 : Int32) : zOk (E, i_X0_numberOf, 0) 0 0 S w 0 [(0, .ref a0), (1, .int a1)] [] (emP eI S w) (f_X0_numberOf S w a0 a1) := by
  unfold f_X0_numberOf
  refine z_aload_n 0 dX0_numberOf_0 rfl (z_getR zc0 3 (by decide) rfl gw196 h0 (zW_some hW h0 3 rfl) dX0_numberOf_1 (z_iload_n 1 dX0_numberOf_4 rfl ?_))
  refine z_chk (fun c1 => ?_)
  refine z_iald (zW_arr hW h0 3 0 rfl) c1 dX0_numberOf_5 ?_
  exact z_iret zemP rfl dX0_numberOf_6

theorem m_X0_numberOf {E : ZE} {S : Zs} (hW : zWF S) (w : Zw) (a0 : Nat) (h0 : zObj S a0 0) (a1 : Int32) : ∀ i, f_X0_numberOf S w a0 a1 = some i → zMr E yX0_numberOf cX0_numberOf 2 ((some .int)) 0 0 0 [.ref a0, .int a1] S w ((emP eI S w) i) :=
  fun i hi => z_enter (by decide +kernel) (Nat.le_of_ble_eq_true rfl) (mw_X0_numberOf hW w a0 h0 a1 i hi)
/-! ParkingRobot$Garage.isFull ()Z : P, depth 0 -/
abbrev i_X1_isFull : Zm := (yX1_isFull.cls, cX1_isFull, 1, (some .boolean), [], yX1_isFull.name)
def f_X1_isFull (S : Zs) (w : Zw) (a0 : Nat) : Option (Int32) :=
  if (w a0 8) < (40 : Int32) then some (0 : Int32) else some (1 : Int32)
theorem mw_X1_isFull {E : ZE} {S : Zs} (hW : zWF S) (w : Zw) (a0 : Nat) (h0 : zObj S a0 1) : zOk (E, i_X1_isFull, 0) 0 0 S w 0 [(0, .ref a0)] [] (emP eI S w) (f_X1_isFull S w a0) := by
  unfold f_X1_isFull
  refine z_aload_n 0 dX1_isFull_0 rfl (z_getI zc1 8 (by decide) rfl gw109 h0 dX1_isFull_1 (z_bipush dX1_isFull_4 zb_40 ?_))
  refine z_icmp_lt 13 dX1_isFull_6 rfl (fun q1 => ?_) (fun q1 => ?_)
  · refine z_iconst dX1_isFull_13 zi_0 ?_
    exact z_zret zemP rfl rfl dX1_isFull_14
  · refine z_iconst dX1_isFull_9 zi_1 (z_goto 14 dX1_isFull_10 rfl ?_)
    exact z_zret zemP rfl rfl dX1_isFull_14

theorem m_X1_isFull {E : ZE} {S : Zs} (hW : zWF S) (w : Zw) (a0 : Nat) (h0 : zObj S a0 1) : ∀ i, f_X1_isFull S w a0 = some i → zMr E yX1_isFull cX1_isFull 1 ((some .boolean)) 0 0 0 [.ref a0] S w ((emP eI S w) i) :=
  fun i hi => z_enter (by decide +kernel) (Nat.le_of_ble_eq_true rfl) (mw_X1_isFull hW w a0 h0 i hi)
/-! ParkingRobot$Plant.bringIn (II)V : W, depth 7 -/
abbrev i_X6_bringIn : Zm := (yX6_bringIn.cls, cX6_bringIn, 6, none, [], yX6_bringIn.name)
def f_X6_bringIn (S : Zs) (w : Zw) (a0 : Nat) (a1 : Int32) (a2 : Int32) : Option (Unit × Zw) :=
  if zin (f_X7_levelOf a2) (zlen S (zr S a0 0)) = true then (f_X4_start S w (zr S a0 1) (w a0 3)).bind fun r2 => (f_X4_start S r2.2 (zr S (zr S a0 0) (zix (f_X7_levelOf a2))) (r2.2 a0 3)).bind fun r4 => zlet (zmin r2.1 r4.1) fun z6 => (f_X4_goTo S r4.2 (zr S a0 1) (0 : Int32)).bind fun r7 => (f_X4_work S r7.2 (zr S a0 1) (2 : Int32)).bind fun r9 => (f_X4_goTo S r9.2 (zr S a0 1) (f_X7_levelOf a2)).bind fun r11 => (f_X4_goTo S r11.2 (zr S (zr S a0 0) (zix (f_X7_levelOf a2))) (0 : Int32)).bind fun r13 => (f_X4_handOver S r13.2 (zr S a0 1) (zr S (zr S a0 0) (zix (f_X7_levelOf a2)))).bind fun r15 => (f_X4_goTo S r15.2 (zr S (zr S a0 0) (zix (f_X7_levelOf a2))) (f_X7_columnOf a2)).bind fun r17 => (f_X4_work S r17.2 (zr S (zr S a0 0) (zix (f_X7_levelOf a2))) (f_X6_workAt a2)).bind fun r19 => (f_X4_finish S r19.2 (zr S a0 1)).bind fun r21 => (f_X4_finish S r21.2 (zr S (zr S a0 0) (zix (f_X7_levelOf a2)))).bind fun r23 => zlet (zmax r21.1 r23.1) fun z25 => (f_X3_add S r23.2 (zr S a0 2) a1 (-1 : Int32) a2 z6 z25).bind fun r26 => some ((), r26.2) else none
theorem mw_X6_bringIn {E : ZE} {S : Zs} (hW : zWF S) (w : Zw) (a0 : Nat) (h0 : zObj S a0 6) (a1 : Int32) (a2 : Int32) : zOk (E, i_X6_bringIn, 7) 0 0 S w 0 [(0, .ref a0), (1, .int a1), (2, .int a2)] [] (emW eU S) (f_X6_bringIn S w a0 a1 a2) := by
  unfold f_X6_bringIn
  refine z_aload_n 0 dX6_bringIn_0 rfl (z_getR zc6 0 (by decide) rfl gw85 h0 (zW_some hW h0 0 rfl) dX6_bringIn_1 (z_iload_n 2 dX6_bringIn_4 rfl ?_))
  refine z_callSN (kc' := 0) (ks' := 0) (v := (some (.int (f_X7_levelOf a2)))) (S1 := S) (w1 := w) (st := [.ref (zr S a0 0)]) [.int a2] (m_X7_levelOf hW w a2) zy_X7_levelOf gw318 zn_m7 (Nat.le_of_ble_eq_true rfl) (Nat.le_of_ble_eq_true rfl) (Nat.le_of_ble_eq_true rfl) (Nat.le_of_ble_eq_true rfl) (zal hW) rfl dX6_bringIn_5 (z_at 8 _ [.int (f_X7_levelOf a2), .ref (zr S a0 0)] rfl rfl rfl ?_)
  refine z_chk (fun c1 => ?_)
  refine z_aald (Or.inl rfl) (zW_arr hW h0 0 5 rfl) c1 (zW_el5 hW (zW_arr hW h0 0 5 rfl) c1).1 dX6_bringIn_8 (z_astore_n (lv' := [(3, .ref (zr S (zr S a0 0) (zix (f_X7_levelOf a2)))), (0, .ref a0), (1, .int a1), (2, .int a2)]) dX6_bringIn_9 (Nat.le_of_ble_eq_true rfl) rfl (z_aload_n 1 dX6_bringIn_10 rfl (z_getR zc6 1 (by decide) rfl gw87 h0 (zW_some hW h0 1 rfl) dX6_bringIn_11 (z_aload_n 1 dX6_bringIn_14 rfl (z_getI zc6 3 (by decide) rfl gw90 h0 dX6_bringIn_15 ?_)))))
  refine z_bind (fun r2 hb3 => ?_)
  refine z_callV (kc' := 0) (ks' := 0) (v := (some (.int r2.1))) (S1 := S) (w1 := r2.2) (st := []) [.int (w a0 3)] (m_X4_start hW w (zr S a0 1) (zW_obj hW h0 1 4 rfl) (w a0 3) r2 hb3) zc4 (zW_obj hW h0 1 4 rfl) zy_X4_start gw342 gw343 gw341 (Nat.le_of_ble_eq_true rfl) (Nat.le_of_ble_eq_true rfl) (Nat.le_of_ble_eq_true rfl) (Nat.le_of_ble_eq_true rfl) (zal hW) rfl dX6_bringIn_18 (z_at 21 _ [.int r2.1] rfl rfl rfl ?_)
  refine z_aload_n 0 dX6_bringIn_21 rfl (z_aload_n 1 dX6_bringIn_22 rfl (z_getI zc6 3 (by decide) rfl gw90 h0 dX6_bringIn_23 ?_))
  refine z_bind (fun r4 hb5 => ?_)
  refine z_callV (kc' := 0) (ks' := 0) (v := (some (.int r4.1))) (S1 := S) (w1 := r4.2) (st := [.int r2.1]) [.int (r2.2 a0 3)] (m_X4_start hW r2.2 (zr S (zr S a0 0) (zix (f_X7_levelOf a2))) (zW_el5 hW (zW_arr hW h0 0 5 rfl) c1).2 (r2.2 a0 3) r4 hb5) zc4 (zW_el5 hW (zW_arr hW h0 0 5 rfl) c1).2 zy_X4_start gw342 gw343 gw341 (Nat.le_of_ble_eq_true rfl) (Nat.le_of_ble_eq_true rfl) (Nat.le_of_ble_eq_true rfl) (Nat.le_of_ble_eq_true rfl) (zal hW) rfl dX6_bringIn_26 (z_at 29 _ [.int r4.1, .int r2.1] rfl rfl rfl ?_)
  refine z_min gw375 (Nat.le_of_ble_eq_true rfl) (Nat.le_of_ble_eq_true rfl) dX6_bringIn_29 ?_
  refine z_let (a := (zmin r2.1 r4.1)) (fun z6 => [(3, .ref (zr S (zr S a0 0) (zix (f_X7_levelOf a2)))), (0, .ref a0), (1, .int a1), (2, .int a2)]) (fun z6 => .int z6 :: []) (fun z6 => ?_)
  refine z_istore (lv' := [(4, .int z6), (3, .ref (zr S (zr S a0 0) (zix (f_X7_levelOf a2)))), (0, .ref a0), (1, .int a1), (2, .int a2)]) dX6_bringIn_32 (Nat.le_of_ble_eq_true rfl) rfl (z_aload_n 2 dX6_bringIn_34 rfl (z_getR zc6 1 (by decide) rfl gw87 h0 (zW_some hW h0 1 rfl) dX6_bringIn_35 (z_iconst dX6_bringIn_38 zi_0 ?_)))
  refine z_bind (fun r7 hb8 => ?_)
  refine z_callV (kc' := 0) (ks' := 0) (v := none) (S1 := S) (w1 := r7.2) (st := []) [.int (0 : Int32)] (m_X4_goTo hW r4.2 (zr S a0 1) (zW_obj hW h0 1 4 rfl) (0 : Int32) r7 hb8) zc4 (zW_obj hW h0 1 4 rfl) zy_X4_goTo gw350 gw351 gw349 (Nat.le_of_ble_eq_true rfl) (Nat.le_of_ble_eq_true rfl) (Nat.le_of_ble_eq_true rfl) (Nat.le_of_ble_eq_true rfl) (zal hW) rfl dX6_bringIn_39 (z_at 42 _ [] rfl rfl rfl ?_)
  refine z_aload_n 2 dX6_bringIn_42 rfl (z_getR zc6 1 (by decide) rfl gw87 h0 (zW_some hW h0 1 rfl) dX6_bringIn_43 (z_iconst dX6_bringIn_46 zi_2 ?_))
  refine z_bind (fun r9 hb10 => ?_)
  refine z_callV (kc' := 0) (ks' := 0) (v := none) (S1 := S) (w1 := r9.2) (st := []) [.int (2 : Int32)] (m_X4_work hW r7.2 (zr S a0 1) (zW_obj hW h0 1 4 rfl) (2 : Int32) r9 hb10) zc4 (zW_obj hW h0 1 4 rfl) zy_X4_work gw359 gw360 gw358 (Nat.le_of_ble_eq_true rfl) (Nat.le_of_ble_eq_true rfl) (Nat.le_of_ble_eq_true rfl) (Nat.le_of_ble_eq_true rfl) (zal hW) rfl dX6_bringIn_47 (z_at 50 _ [] rfl rfl rfl ?_)
  refine z_aload_n 2 dX6_bringIn_50 rfl (z_getR zc6 1 (by decide) rfl gw87 h0 (zW_some hW h0 1 rfl) dX6_bringIn_51 (z_iload_n 4 dX6_bringIn_54 rfl ?_))
  refine z_callSN (kc' := 0) (ks' := 0) (v := (some (.int (f_X7_levelOf a2)))) (S1 := S) (w1 := r9.2) (st := [.ref (zr S a0 1)]) [.int a2] (m_X7_levelOf hW r9.2 a2) zy_X7_levelOf gw318 zn_m7 (Nat.le_of_ble_eq_true rfl) (Nat.le_of_ble_eq_true rfl) (Nat.le_of_ble_eq_true rfl) (Nat.le_of_ble_eq_true rfl) (zal hW) rfl dX6_bringIn_55 (z_at 58 _ [.int (f_X7_levelOf a2), .ref (zr S a0 1)] rfl rfl rfl ?_)
  refine z_bind (fun r11 hb12 => ?_)
  refine z_callV (kc' := 0) (ks' := 0) (v := none) (S1 := S) (w1 := r11.2) (st := []) [.int (f_X7_levelOf a2)] (m_X4_goTo hW r9.2 (zr S a0 1) (zW_obj hW h0 1 4 rfl) (f_X7_levelOf a2) r11 hb12) zc4 (zW_obj hW h0 1 4 rfl) zy_X4_goTo gw350 gw351 gw349 (Nat.le_of_ble_eq_true rfl) (Nat.le_of_ble_eq_true rfl) (Nat.le_of_ble_eq_true rfl) (Nat.le_of_ble_eq_true rfl) (zal hW) rfl dX6_bringIn_58 (z_at 61 _ [] rfl rfl rfl ?_)
  refine z_aload_n 1 dX6_bringIn_61 rfl (z_iconst dX6_bringIn_62 zi_0 ?_)
  refine z_bind (fun r13 hb14 => ?_)
  refine z_callV (kc' := 0) (ks' := 0) (v := none) (S1 := S) (w1 := r13.2) (st := []) [.int (0 : Int32)] (m_X4_goTo hW r11.2 (zr S (zr S a0 0) (zix (f_X7_levelOf a2))) (zW_el5 hW (zW_arr hW h0 0 5 rfl) c1).2 (0 : Int32) r13 hb14) zc4 (zW_el5 hW (zW_arr hW h0 0 5 rfl) c1).2 zy_X4_goTo gw350 gw351 gw349 (Nat.le_of_ble_eq_true rfl) (Nat.le_of_ble_eq_true rfl) (Nat.le_of_ble_eq_true rfl) (Nat.le_of_ble_eq_true rfl) (zal hW) rfl dX6_bringIn_63 (z_at 66 _ [] rfl rfl rfl ?_)
  refine z_aload_n 2 dX6_bringIn_66 rfl (z_getR zc6 1 (by decide) rfl gw87 h0 (zW_some hW h0 1 rfl) dX6_bringIn_67 (z_aload_n 1 dX6_bringIn_70 rfl ?_))
  refine z_bind (fun r15 hb16 => ?_)
  refine z_callV (kc' := 0) (ks' := 0) (v := none) (S1 := S) (w1 := r15.2) (st := []) [.ref (zr S (zr S a0 0) (zix (f_X7_levelOf a2)))] (m_X4_handOver hW r13.2 (zr S a0 1) (zW_obj hW h0 1 4 rfl) (zr S (zr S a0 0) (zix (f_X7_levelOf a2))) (zW_el5 hW (zW_arr hW h0 0 5 rfl) c1).2 r15 hb16) zc4 (zW_obj hW h0 1 4 rfl) zy_X4_handOver gw379 gw380 gw378 (Nat.le_of_ble_eq_true rfl) (Nat.le_of_ble_eq_true rfl) (Nat.le_of_ble_eq_true rfl) (Nat.le_of_ble_eq_true rfl) (zal hW) rfl dX6_bringIn_71 (z_at 74 _ [] rfl rfl rfl ?_)
  refine z_aload_n 1 dX6_bringIn_74 rfl (z_iload_n 4 dX6_bringIn_75 rfl ?_)
  refine z_callSN (kc' := 0) (ks' := 0) (v := (some (.int (f_X7_columnOf a2)))) (S1 := S) (w1 := r15.2) (st := [.ref (zr S (zr S a0 0) (zix (f_X7_levelOf a2)))]) [.int a2] (m_X7_columnOf hW r15.2 a2) zy_X7_columnOf gw312 zn_m8 (Nat.le_of_ble_eq_true rfl) (Nat.le_of_ble_eq_true rfl) (Nat.le_of_ble_eq_true rfl) (Nat.le_of_ble_eq_true rfl) (zal hW) rfl dX6_bringIn_76 (z_at 79 _ [.int (f_X7_columnOf a2), .ref (zr S (zr S a0 0) (zix (f_X7_levelOf a2)))] rfl rfl rfl ?_)
  refine z_bind (fun r17 hb18 => ?_)
  refine z_callV (kc' := 0) (ks' := 0) (v := none) (S1 := S) (w1 := r17.2) (st := []) [.int (f_X7_columnOf a2)] (m_X4_goTo hW r15.2 (zr S (zr S a0 0) (zix (f_X7_levelOf a2))) (zW_el5 hW (zW_arr hW h0 0 5 rfl) c1).2 (f_X7_columnOf a2) r17 hb18) zc4 (zW_el5 hW (zW_arr hW h0 0 5 rfl) c1).2 zy_X4_goTo gw350 gw351 gw349 (Nat.le_of_ble_eq_true rfl) (Nat.le_of_ble_eq_true rfl) (Nat.le_of_ble_eq_true rfl) (Nat.le_of_ble_eq_true rfl) (zal hW) rfl dX6_bringIn_79 (z_at 82 _ [] rfl rfl rfl ?_)
  refine z_aload_n 1 dX6_bringIn_82 rfl (z_iload_n 4 dX6_bringIn_83 rfl ?_)
  refine z_callS (kc' := 0) (ks' := 0) (v := (some (.int (f_X6_workAt a2)))) (S1 := S) (w1 := r17.2) (st := [.ref (zr S (zr S a0 0) (zix (f_X7_levelOf a2)))]) [.int a2] (m_X6_workAt hW r17.2 a2) zy_X6_workAt gw355 gw354 (Nat.le_of_ble_eq_true rfl) (Nat.le_of_ble_eq_true rfl) (Nat.le_of_ble_eq_true rfl) (Nat.le_of_ble_eq_true rfl) (zal hW) rfl dX6_bringIn_84 (z_at 87 _ [.int (f_X6_workAt a2), .ref (zr S (zr S a0 0) (zix (f_X7_levelOf a2)))] rfl rfl rfl ?_)
  refine z_bind (fun r19 hb20 => ?_)
  refine z_callV (kc' := 0) (ks' := 0) (v := none) (S1 := S) (w1 := r19.2) (st := []) [.int (f_X6_workAt a2)] (m_X4_work hW r17.2 (zr S (zr S a0 0) (zix (f_X7_levelOf a2))) (zW_el5 hW (zW_arr hW h0 0 5 rfl) c1).2 (f_X6_workAt a2) r19 hb20) zc4 (zW_el5 hW (zW_arr hW h0 0 5 rfl) c1).2 zy_X4_work gw359 gw360 gw358 (Nat.le_of_ble_eq_true rfl) (Nat.le_of_ble_eq_true rfl) (Nat.le_of_ble_eq_true rfl) (Nat.le_of_ble_eq_true rfl) (zal hW) rfl dX6_bringIn_87 (z_at 90 _ [] rfl rfl rfl ?_)
  refine z_aload_n 2 dX6_bringIn_90 rfl (z_getR zc6 1 (by decide) rfl gw87 h0 (zW_some hW h0 1 rfl) dX6_bringIn_91 ?_)
  refine z_bind (fun r21 hb22 => ?_)
  refine z_callV (kc' := 0) (ks' := 0) (v := (some (.int r21.1))) (S1 := S) (w1 := r21.2) (st := []) [] (m_X4_finish hW r19.2 (zr S a0 1) (zW_obj hW h0 1 4 rfl) r21 hb22) zc4 (zW_obj hW h0 1 4 rfl) zy_X4_finish gw363 gw364 gw362 (Nat.le_of_ble_eq_true rfl) (Nat.le_of_ble_eq_true rfl) (Nat.le_of_ble_eq_true rfl) (Nat.le_of_ble_eq_true rfl) (zal hW) rfl dX6_bringIn_94 (z_at 97 _ [.int r21.1] rfl rfl rfl ?_)
  refine z_aload_n 1 dX6_bringIn_97 rfl ?_
  refine z_bind (fun r23 hb24 => ?_)
  refine z_callV (kc' := 0) (ks' := 0) (v := (some (.int r23.1))) (S1 := S) (w1 := r23.2) (st := [.int r21.1]) [] (m_X4_finish hW r21.2 (zr S (zr S a0 0) (zix (f_X7_levelOf a2))) (zW_el5 hW (zW_arr hW h0 0 5 rfl) c1).2 r23 hb24) zc4 (zW_el5 hW (zW_arr hW h0 0 5 rfl) c1).2 zy_X4_finish gw363 gw364 gw362 (Nat.le_of_ble_eq_true rfl) (Nat.le_of_ble_eq_true rfl) (Nat.le_of_ble_eq_true rfl) (Nat.le_of_ble_eq_true rfl) (zal hW) rfl dX6_bringIn_98 (z_at 101 _ [.int r23.1, .int r21.1] rfl rfl rfl ?_)
  refine z_max gw382 (Nat.le_of_ble_eq_true rfl) (Nat.le_of_ble_eq_true rfl) dX6_bringIn_101 ?_
  refine z_let (a := (zmax r21.1 r23.1)) (fun z25 => [(4, .int z6), (3, .ref (zr S (zr S a0 0) (zix (f_X7_levelOf a2)))), (0, .ref a0), (1, .int a1), (2, .int a2)]) (fun z25 => .int z25 :: []) (fun z25 => ?_)
  refine z_istore (lv' := [(5, .int z25), (4, .int z6), (3, .ref (zr S (zr S a0 0) (zix (f_X7_levelOf a2)))), (0, .ref a0), (1, .int a1), (2, .int a2)]) dX6_bringIn_104 (Nat.le_of_ble_eq_true rfl) rfl (z_aload_n 3 dX6_bringIn_106 rfl (z_getR zc6 2 (by decide) rfl gw88 h0 (zW_some hW h0 2 rfl) dX6_bringIn_107 (z_iload_n 4 dX6_bringIn_110 rfl (z_iconst dX6_bringIn_111 zi_m1 (z_iload_n 5 dX6_bringIn_112 rfl ?_)))))
  refine z_iload 1 dX6_bringIn_113 rfl (z_iload 0 dX6_bringIn_115 rfl ?_)
  refine z_bind (fun r26 hb27 => ?_)
  refine z_callV (kc' := 0) (ks' := 0) (v := none) (S1 := S) (w1 := r26.2) (st := []) [.int a1, .int (-1 : Int32), .int a2, .int z6, .int z25] (m_X3_add hW r23.2 (zr S a0 2) (zW_obj hW h0 2 3 rfl) a1 (-1 : Int32) a2 z6 z25 r26 hb27) zc3 (zW_obj hW h0 2 3 rfl) zy_X3_add gw367 gw368 gw366 (Nat.le_of_ble_eq_true rfl) (Nat.le_of_ble_eq_true rfl) (Nat.le_of_ble_eq_true rfl) (Nat.le_of_ble_eq_true rfl) (zal hW) rfl dX6_bringIn_117 (z_at 120 _ [] rfl rfl rfl ?_)
  exact z_vret zemW rfl dX6_bringIn_120

theorem m_X6_bringIn {E : ZE} {S : Zs} (hW : zWF S) (w : Zw) (a0 : Nat) (h0 : zObj S a0 6) (a1 : Int32) (a2 : Int32) : ∀ i, f_X6_bringIn S w a0 a1 a2 = some i → zMr E yX6_bringIn cX6_bringIn 6 none 7 0 0 [.ref a0, .int a1, .int a2] S w ((emW eU S) i) :=
  fun i hi => z_enter (by decide +kernel) (Nat.le_of_ble_eq_true rfl) (mw_X6_bringIn hW w a0 h0 a1 a2 i hi)
end ZFN
