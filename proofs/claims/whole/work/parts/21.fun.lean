section ZFN
/-! ParkingRobot$Garage.isBad (II)Z : P, depth 1 -/
abbrev i_X1_isBad : Zm := (yX1_isBad.cls, cX1_isBad, 3, (some .boolean), [], yX1_isBad.name)
def f_X1_isBad (S : Zs) (w : Zw) (a0 : Nat) (a1 : Int32) (a2 : Int32) : Option (Int32) :=
  if (f_X7_depthOf a1) = (1 : Int32) then some (0 : Int32) else if zin (a1 + (1 : Int32)) (zlen S (zr S a0 1)) = true then if (w (zr S a0 1) (zix (a1 + (1 : Int32)))) = (-1 : Int32) then some (0 : Int32) else if zin (a1 + (1 : Int32)) (zlen S (zr S a0 1)) = true then if zin (w (zr S a0 1) (zix (a1 + (1 : Int32)))) (zlen S (zr S a0 3)) = true then if a2 ≤ (w (zr S a0 3) (zix (w (zr S a0 1) (zix (a1 + (1 : Int32)))))) then some (0 : Int32) else some (1 : Int32) else none else none else none
theorem mw_X1_isBad {E : ZE} {S : Zs} (hW : zWF S) (w : Zw) (a0 : Nat) (h0 : zObj S a0 1) (a1 : Int32) (a2 : Int32) : zOk (E, i_X1_isBad, 1) 0 0 S w 0 [(0, .ref a0), (1, .int a1), (2, .int a2)] [] (emP eI S w) (f_X1_isBad S w a0 a1 a2) := by
  unfold f_X1_isBad
  refine z_iload_n 1 dX1_isBad_0 rfl ?_
  refine z_callSN (kc' := 0) (ks' := 0) (v := (some (.int (f_X7_depthOf a1)))) (S1 := S) (w1 := w) (st := []) [.int a1] (m_X7_depthOf hW w a1) zy_X7_depthOf gw290 zn_m2 (Nat.le_of_ble_eq_true rfl) (Nat.le_of_ble_eq_true rfl) (Nat.le_of_ble_eq_true rfl) (Nat.le_of_ble_eq_true rfl) (zal hW) rfl dX1_isBad_1 (z_at 4 _ [.int (f_X7_depthOf a1)] rfl rfl rfl ?_)
  refine z_iconst dX1_isBad_4 zi_1 ?_
  refine z_icmp_eq 20 dX1_isBad_5 rfl (fun q1 => ?_) (fun q1 => ?_)
  · refine z_iconst dX1_isBad_20 zi_0 ?_
    exact z_zret zemP rfl rfl dX1_isBad_21
  · refine z_aload_n 0 dX1_isBad_8 rfl (z_getR zc1 1 (by decide) rfl gw102 h0 (zW_some hW h0 1 rfl) dX1_isBad_9 (z_iload_n 1 dX1_isBad_12 rfl (z_iconst dX1_isBad_13 zi_1 (z_iadd dX1_isBad_14 ?_))))
    refine z_chk (fun c2 => ?_)
    refine z_iald (zW_arr hW h0 1 0 rfl) c2 dX1_isBad_15 (z_iconst dX1_isBad_16 zi_m1 ?_)
    refine z_icmp_ne 22 dX1_isBad_17 rfl (fun q3 => ?_) (fun q3 => ?_)
    · refine z_aload_n 0 dX1_isBad_22 rfl (z_getR zc1 3 (by decide) rfl gw104 h0 (zW_some hW h0 3 rfl) dX1_isBad_23 (z_aload_n 0 dX1_isBad_26 rfl (z_getR zc1 1 (by decide) rfl gw102 h0 (zW_some hW h0 1 rfl) dX1_isBad_27 (z_iload_n 1 dX1_isBad_30 rfl (z_iconst dX1_isBad_31 zi_1 ?_)))))
      refine z_iadd dX1_isBad_32 ?_
      refine z_chk (fun c4 => ?_)
      refine z_iald (zW_arr hW h0 1 0 rfl) c4 dX1_isBad_33 ?_
      refine z_chk (fun c5 => ?_)
      refine z_iald (zW_arr hW h0 3 0 rfl) c5 dX1_isBad_34 (z_iload_n 2 dX1_isBad_35 rfl ?_)
      refine z_icmp_ge 43 dX1_isBad_36 rfl (fun q6 => ?_) (fun q6 => ?_)
      · refine z_iconst dX1_isBad_43 zi_0 ?_
        exact z_zret zemP rfl rfl dX1_isBad_44
      · refine z_iconst dX1_isBad_39 zi_1 (z_goto 44 dX1_isBad_40 rfl ?_)
        exact z_zret zemP rfl rfl dX1_isBad_44
    · refine z_iconst dX1_isBad_20 zi_0 ?_
      exact z_zret zemP rfl rfl dX1_isBad_21

theorem m_X1_isBad {E : ZE} {S : Zs} (hW : zWF S) (w : Zw) (a0 : Nat) (h0 : zObj S a0 1) (a1 : Int32) (a2 : Int32) : ∀ i, f_X1_isBad S w a0 a1 a2 = some i → zMr E yX1_isBad cX1_isBad 3 ((some .boolean)) 1 0 0 [.ref a0, .int a1, .int a2] S w ((emP eI S w) i) :=
  fun i hi => z_enter (by decide +kernel) (Nat.le_of_ble_eq_true rfl) (mw_X1_isBad hW w a0 h0 a1 a2 i hi)
/-! ParkingRobot$Garage.chooseBay (III)I : P, depth 7 -/
abbrev i_X1_chooseBay : Zm := (yX1_chooseBay.cls, cX1_chooseBay, 8, (some .int), [], yX1_chooseBay.name)
def f_X1_chooseBay_j100 (S : Zs) (w : Zw) (x0 : Nat) (x1 : Int32) (x2 : Int32) (x3 : Int32) (x4 : Int32) (x5 : Int32) (x6 : Int32) (x7 : Int32) (k9 : (Int32 × Int32 × Int32) → Option (Int32)) : Option (Int32) :=
  if x4 = (-1 : Int32) then k9 (x6, x7, (x6 + (1 : Int32))) else if x5 ≤ x7 then k9 (x4, x5, (x6 + (1 : Int32))) else k9 (x6, x7, (x6 + (1 : Int32)))
theorem m_X1_chooseBay_j100 {E : ZE} {S : Zs} (hW : zWF S) (w : Zw) (x0 : Nat) (hx0 : zObj S x0 1) (x1 : Int32) (x2 : Int32) (x3 : Int32) (x4 : Int32) (x5 : Int32) (x6 : Int32) (x7 : Int32) (k9 : (Int32 × Int32 × Int32) → Option (Int32)) (hk9 : ∀ a : Int32 × Int32 × Int32, zOk (E, i_X1_chooseBay, 7) 0 0 S w 9 [(0, .ref x0), (1, .int x1), (2, .int x2), (3, .int x3), (4, .int a.1), (5, .int a.2.1), (6, .int a.2.2)] [] (emP eI S w) (k9 a)) : zOk (E, i_X1_chooseBay, 7) 0 0 S w 100 [(0, .ref x0), (1, .int x1), (2, .int x2), (3, .int x3), (4, .int x4), (5, .int x5), (6, .int x6), (7, .int x7)] [] (emP eI S w) (f_X1_chooseBay_j100 S w x0 x1 x2 x3 x4 x5 x6 x7 k9) := by
  unfold f_X1_chooseBay_j100
  refine z_iload 4 dX1_chooseBay_100 rfl (z_iconst dX1_chooseBay_102 zi_m1 ?_)
  refine z_icmp_eq 113 dX1_chooseBay_103 rfl (fun q16 => ?_) (fun q16 => ?_)
  · refine z_iload 6 dX1_chooseBay_113 rfl (z_istore (lv' := [(4, .int x6), (0, .ref x0), (1, .int x1), (2, .int x2), (3, .int x3), (5, .int x5), (6, .int x6), (7, .int x7)]) dX1_chooseBay_115 (Nat.le_of_ble_eq_true rfl) rfl (z_iload 7 dX1_chooseBay_117 rfl (z_istore (lv' := [(5, .int x7), (4, .int x6), (0, .ref x0), (1, .int x1), (2, .int x2), (3, .int x3), (6, .int x6), (7, .int x7)]) dX1_chooseBay_119 (Nat.le_of_ble_eq_true rfl) rfl (z_iinc (v := (x6 + (1 : Int32))) (lv' := [(6, .int (x6 + (1 : Int32))), (5, .int x7), (4, .int x6), (0, .ref x0), (1, .int x1), (2, .int x2), (3, .int x3), (7, .int x7)]) 6 dX1_chooseBay_121 rfl (zi_inc _ zi_1) (Nat.le_of_ble_eq_true rfl) rfl (z_goto 9 dX1_chooseBay_124 rfl ?_)))))
    refine z_sub (lv' := [(0, .ref x0), (1, .int x1), (2, .int x2), (3, .int x3), (4, .int x6), (5, .int x7), (6, .int (x6 + (1 : Int32)))]) [3, 4, 5, 6, 2, 1, 0] rfl ?_
    refine z_pc (pc' := 9) rfl ?_
    exact hk9 (x6, x7, (x6 + (1 : Int32)))
  · refine z_iload 7 dX1_chooseBay_106 rfl (z_iload 5 dX1_chooseBay_108 rfl ?_)
    refine z_icmp_ge 121 dX1_chooseBay_110 rfl (fun q17 => ?_) (fun q17 => ?_)
    · refine z_iinc (v := (x6 + (1 : Int32))) (lv' := [(6, .int (x6 + (1 : Int32))), (0, .ref x0), (1, .int x1), (2, .int x2), (3, .int x3), (4, .int x4), (5, .int x5), (7, .int x7)]) 6 dX1_chooseBay_121 rfl (zi_inc _ zi_1) (Nat.le_of_ble_eq_true rfl) rfl (z_goto 9 dX1_chooseBay_124 rfl ?_)
      refine z_sub (lv' := [(0, .ref x0), (1, .int x1), (2, .int x2), (3, .int x3), (4, .int x4), (5, .int x5), (6, .int (x6 + (1 : Int32)))]) [1, 2, 3, 4, 5, 6, 0] rfl ?_
      refine z_pc (pc' := 9) rfl ?_
      exact hk9 (x4, x5, (x6 + (1 : Int32)))
    · refine z_iload 6 dX1_chooseBay_113 rfl (z_istore (lv' := [(4, .int x6), (0, .ref x0), (1, .int x1), (2, .int x2), (3, .int x3), (5, .int x5), (6, .int x6), (7, .int x7)]) dX1_chooseBay_115 (Nat.le_of_ble_eq_true rfl) rfl (z_iload 7 dX1_chooseBay_117 rfl (z_istore (lv' := [(5, .int x7), (4, .int x6), (0, .ref x0), (1, .int x1), (2, .int x2), (3, .int x3), (6, .int x6), (7, .int x7)]) dX1_chooseBay_119 (Nat.le_of_ble_eq_true rfl) rfl (z_iinc (v := (x6 + (1 : Int32))) (lv' := [(6, .int (x6 + (1 : Int32))), (5, .int x7), (4, .int x6), (0, .ref x0), (1, .int x1), (2, .int x2), (3, .int x3), (7, .int x7)]) 6 dX1_chooseBay_121 rfl (zi_inc _ zi_1) (Nat.le_of_ble_eq_true rfl) rfl (z_goto 9 dX1_chooseBay_124 rfl ?_)))))
      refine z_sub (lv' := [(0, .ref x0), (1, .int x1), (2, .int x2), (3, .int x3), (4, .int x6), (5, .int x7), (6, .int (x6 + (1 : Int32)))]) [3, 4, 5, 6, 2, 1, 0] rfl ?_
      refine z_pc (pc' := 9) rfl ?_
      exact hk9 (x6, x7, (x6 + (1 : Int32)))

def f_X1_chooseBay_j82 (S : Zs) (w : Zw) (x0 : Nat) (x1 : Int32) (x2 : Int32) (x3 : Int32) (x4 : Int32) (x5 : Int32) (x6 : Int32) (y0 : Int32) (k9 : (Int32 × Int32 × Int32) → Option (Int32)) : Option (Int32) :=
  (f_X1_isBad S w x0 x6 x2).bind fun v13 => if v13 = 0 then f_X1_chooseBay_j100 S w x0 x1 x2 x3 x4 x5 x6 y0 k9  else f_X1_chooseBay_j100 S w x0 x1 x2 x3 x4 x5 x6 ((y0 + (1000 : Int32))) k9 
theorem m_X1_chooseBay_j82 {E : ZE} {S : Zs} (hW : zWF S) (w : Zw) (x0 : Nat) (hx0 : zObj S x0 1) (x1 : Int32) (x2 : Int32) (x3 : Int32) (x4 : Int32) (x5 : Int32) (x6 : Int32) (y0 : Int32) (k9 : (Int32 × Int32 × Int32) → Option (Int32)) (hk9 : ∀ a : Int32 × Int32 × Int32, zOk (E, i_X1_chooseBay, 7) 0 0 S w 9 [(0, .ref x0), (1, .int x1), (2, .int x2), (3, .int x3), (4, .int a.1), (5, .int a.2.1), (6, .int a.2.2)] [] (emP eI S w) (k9 a)) : zOk (E, i_X1_chooseBay, 7) 0 0 S w 82 [(0, .ref x0), (1, .int x1), (2, .int x2), (3, .int x3), (4, .int x4), (5, .int x5), (6, .int x6)] [.int y0] (emP eI S w) (f_X1_chooseBay_j82 S w x0 x1 x2 x3 x4 x5 x6 y0 k9) := by
  unfold f_X1_chooseBay_j82
  refine z_istore (lv' := [(7, .int y0), (0, .ref x0), (1, .int x1), (2, .int x2), (3, .int x3), (4, .int x4), (5, .int x5), (6, .int x6)]) dX1_chooseBay_82 (Nat.le_of_ble_eq_true rfl) rfl (z_aload_n 1 dX1_chooseBay_84 rfl (z_iload 7 dX1_chooseBay_85 rfl (z_iload_n 3 dX1_chooseBay_87 rfl ?_)))
  refine z_bind (fun v13 hb14 => ?_)
  refine z_callV (kc' := 0) (ks' := 0) (v := (some (.int v13))) (S1 := S) (w1 := w) (st := []) [.int x6, .int x2] (m_X1_isBad hW w x0 hx0 x6 x2 v13 hb14) zc1 hx0 zy_X1_isBad gw329 gp1 gw327 (Nat.le_of_ble_eq_true rfl) (Nat.le_of_ble_eq_true rfl) (Nat.le_of_ble_eq_true rfl) (Nat.le_of_ble_eq_true rfl) (zal hW) rfl dX1_chooseBay_88 (z_at 91 _ [.int v13] rfl rfl rfl ?_)
  refine z_if_eq 100 dX1_chooseBay_91 rfl (fun q15 => ?_) (fun q15 => ?_)
  · refine z_sub (lv' := [(0, .ref x0), (1, .int x1), (2, .int x2), (3, .int x3), (4, .int x4), (5, .int x5), (6, .int x6), (7, .int y0)]) [1, 2, 3, 4, 5, 6, 7, 0] rfl ?_
    refine z_pc (pc' := 100) rfl ?_
    exact m_X1_chooseBay_j100 hW w x0 hx0 x1 x2 x3 x4 x5 x6 y0 k9 hk9 
  · refine z_iincW (v := (y0 + (1000 : Int32))) (lv' := [(7, .int (y0 + (1000 : Int32))), (0, .ref x0), (1, .int x1), (2, .int x2), (3, .int x3), (4, .int x4), (5, .int x5), (6, .int x6)]) 0 dX1_chooseBay_94 rfl (zi_inc _ zi_1000) (Nat.le_of_ble_eq_true rfl) rfl ?_
    refine z_sub (lv' := [(0, .ref x0), (1, .int x1), (2, .int x2), (3, .int x3), (4, .int x4), (5, .int x5), (6, .int x6), (7, .int (y0 + (1000 : Int32)))]) [1, 2, 3, 4, 5, 6, 7, 0] rfl ?_
    refine z_pc (pc' := 100) rfl ?_
    exact m_X1_chooseBay_j100 hW w x0 hx0 x1 x2 x3 x4 x5 x6 ((y0 + (1000 : Int32))) k9 hk9 

def f_X1_chooseBay_j63 (S : Zs) (w : Zw) (x0 : Nat) (x1 : Int32) (x2 : Int32) (x3 : Int32) (x4 : Int32) (x5 : Int32) (x6 : Int32) (k9 : (Int32 × Int32 × Int32) → Option (Int32)) : Option (Int32) :=
  if x3 = (-1 : Int32) then f_X1_chooseBay_j82 S w x0 x1 x2 x3 x4 x5 x6 ((f_X7_effortToStore x6)) k9  else (f_X7_effortToMove x3 x6).bind fun v11 => f_X1_chooseBay_j82 S w x0 x1 x2 x3 x4 x5 x6 v11 k9 
theorem m_X1_chooseBay_j63 {E : ZE} {S : Zs} (hW : zWF S) (w : Zw) (x0 : Nat) (hx0 : zObj S x0 1) (x1 : Int32) (x2 : Int32) (x3 : Int32) (x4 : Int32) (x5 : Int32) (x6 : Int32) (k9 : (Int32 × Int32 × Int32) → Option (Int32)) (hk9 : ∀ a : Int32 × Int32 × Int32, zOk (E, i_X1_chooseBay, 7) 0 0 S w 9 [(0, .ref x0), (1, .int x1), (2, .int x2), (3, .int x3), (4, .int a.1), (5, .int a.2.1), (6, .int a.2.2)] [] (emP eI S w) (k9 a)) : zOk (E, i_X1_chooseBay, 7) 0 0 S w 63 [(0, .ref x0), (1, .int x1), (2, .int x2), (3, .int x3), (4, .int x4), (5, .int x5), (6, .int x6)] [] (emP eI S w) (f_X1_chooseBay_j63 S w x0 x1 x2 x3 x4 x5 x6 k9) := by
  unfold f_X1_chooseBay_j63
  refine z_iload_n 3 dX1_chooseBay_63 rfl (z_iconst dX1_chooseBay_64 zi_m1 ?_)
  refine z_icmp_ne 76 dX1_chooseBay_65 rfl (fun q10 => ?_) (fun q10 => ?_)
  · refine z_iload_n 3 dX1_chooseBay_76 rfl (z_iload 6 dX1_chooseBay_77 rfl ?_)
    refine z_bind (fun v11 hb12 => ?_)
    refine z_callSN (kc' := 0) (ks' := 0) (v := (some (.int v11))) (S1 := S) (w1 := w) (st := []) [.int x3, .int x6] (m_X7_effortToMove hW w x3 x6 v11 hb12) zy_X7_effortToMove gw322 zn_m5 (Nat.le_of_ble_eq_true rfl) (Nat.le_of_ble_eq_true rfl) (Nat.le_of_ble_eq_true rfl) (Nat.le_of_ble_eq_true rfl) (zal hW) rfl dX1_chooseBay_79 (z_at 82 _ [.int v11] rfl rfl rfl ?_)
    refine z_pc (pc' := 82) rfl ?_
    exact m_X1_chooseBay_j82 hW w x0 hx0 x1 x2 x3 x4 x5 x6 v11 k9 hk9 
  · refine z_iload 6 dX1_chooseBay_68 rfl ?_
    refine z_callSN (kc' := 0) (ks' := 0) (v := (some (.int (f_X7_effortToStore x6)))) (S1 := S) (w1 := w) (st := []) [.int x6] (m_X7_effortToStore hW w x6) zy_X7_effortToStore gw315 zn_m4 (Nat.le_of_ble_eq_true rfl) (Nat.le_of_ble_eq_true rfl) (Nat.le_of_ble_eq_true rfl) (Nat.le_of_ble_eq_true rfl) (zal hW) rfl dX1_chooseBay_70 (z_at 73 _ [.int (f_X7_effortToStore x6)] rfl rfl rfl ?_)
    refine z_goto 82 dX1_chooseBay_73 rfl ?_
    refine z_pc (pc' := 82) rfl ?_
    exact m_X1_chooseBay_j82 hW w x0 hx0 x1 x2 x3 x4 x5 x6 ((f_X7_effortToStore x6)) k9 hk9 

def f_X1_chooseBay_b9 (S : Zs) (w : Zw) (x0 : Nat) (x1 : Int32) (x2 : Int32) (x3 : Int32) (k : (Int32 × Int32 × Int32) → Option (Int32)) (x4 : Int32) (x5 : Int32) (x6 : Int32) : Option (Int32) :=
  if (60 : Int32) ≤ x6 then some x4 else if zin x6 (zlen S (zr S x0 0)) = true then if (w (zr S x0 0) (zix x6)) = 0 then (if zin x6 (zlen S (zr S x0 1)) = true then if (w (zr S x0 1) (zix x6)) = (-1 : Int32) then (f_X1_carBefore S w x0 x6).bind fun v6 => if v6 = (-1 : Int32) then (if x1 = (1 : Int32) then (f_X7_isWide x6).bind fun v18 => if v18 = 0 then k (x4, x5, (x6 + (1 : Int32))) else f_X1_chooseBay_j63 S w x0 x1 x2 x3 x4 x5 x6 k  else f_X1_chooseBay_j63 S w x0 x1 x2 x3 x4 x5 x6 k ) else k (x4, x5, (x6 + (1 : Int32))) else k (x4, x5, (x6 + (1 : Int32))) else none) else k (x4, x5, (x6 + (1 : Int32))) else none
def f_X1_chooseBay_l9 (S : Zs) (w : Zw) (x0 : Nat) (x1 : Int32) (x2 : Int32) (x3 : Int32) (a : Int32 × Int32 × Int32) : Option (Int32) :=
  zlp (fun k a => f_X1_chooseBay_b9 S w x0 x1 x2 x3 k a.1 a.2.1 a.2.2) zFU a
theorem m_X1_chooseBay_l9 {E : ZE} {S : Zs} (hW : zWF S) (w : Zw) (x0 : Nat) (hx0 : zObj S x0 1) (x1 : Int32) (x2 : Int32) (x3 : Int32) : ∀ a : Int32 × Int32 × Int32, zOk (E, i_X1_chooseBay, 7) 0 0 S w 9 [(0, .ref x0), (1, .int x1), (2, .int x2), (3, .int x3), (4, .int a.1), (5, .int a.2.1), (6, .int a.2.2)] [] (emP eI S w) (f_X1_chooseBay_l9 S w x0 x1 x2 x3 a) := by
  intro a
  refine z_lp (P := fun _ => True) (W9 := fun a : Int32 × Int32 × Int32 => w) (L9 := fun a : Int32 × Int32 × Int32 => [(0, .ref x0), (1, .int x1), (2, .int x2), (3, .int x3), (4, .int a.1), (5, .int a.2.1), (6, .int a.2.2)]) (T9 := fun _ => []) (fun k hk9 a _ => ?_) zFU a trivial
  have hk : ∀ a : Int32 × Int32 × Int32, zOk (E, i_X1_chooseBay, 7) 0 0 S w 9 [(0, .ref x0), (1, .int x1), (2, .int x2), (3, .int x3), (4, .int a.1), (5, .int a.2.1), (6, .int a.2.2)] [] (emP eI S w) (k a) := fun a => hk9 a trivial
  clear hk9
  obtain ⟨x4, x5, x6⟩ := a
  show zOk (E, i_X1_chooseBay, 7) 0 0 S w 9 [(0, .ref x0), (1, .int x1), (2, .int x2), (3, .int x3), (4, .int x4), (5, .int x5), (6, .int x6)] [] (emP eI S w) (f_X1_chooseBay_b9 S w x0 x1 x2 x3 k x4 x5 x6)
  unfold f_X1_chooseBay_b9
  refine z_iload 6 dX1_chooseBay_9 rfl (z_bipush dX1_chooseBay_11 zb_60 ?_)
  refine z_icmp_ge 127 dX1_chooseBay_13 rfl (fun q1 => ?_) (fun q1 => ?_)
  · refine z_iload 4 dX1_chooseBay_127 rfl ?_
    exact z_iret zemP rfl dX1_chooseBay_129
  · refine z_aload_n 0 dX1_chooseBay_16 rfl (z_getR zc1 0 (by decide) rfl gw101 hx0 (zW_some hW hx0 0 rfl) dX1_chooseBay_17 (z_iload 6 dX1_chooseBay_20 rfl ?_))
    refine z_chk (fun c2 => ?_)
    refine z_zald (zW_arr hW hx0 0 1 rfl) c2 dX1_chooseBay_22 ?_
    refine z_if_ne 121 dX1_chooseBay_23 rfl (fun q3 => ?_) (fun q3 => ?_)
    · refine z_iinc (v := (x6 + (1 : Int32))) (lv' := [(6, .int (x6 + (1 : Int32))), (0, .ref x0), (1, .int x1), (2, .int x2), (3, .int x3), (4, .int x4), (5, .int x5)]) 6 dX1_chooseBay_121 rfl (zi_inc _ zi_1) (Nat.le_of_ble_eq_true rfl) rfl (z_goto 9 dX1_chooseBay_124 rfl ?_)
      refine z_sub (lv' := [(0, .ref x0), (1, .int x1), (2, .int x2), (3, .int x3), (4, .int x4), (5, .int x5), (6, .int (x6 + (1 : Int32)))]) [1, 2, 3, 4, 5, 6, 0] rfl ?_
      refine z_pc (pc' := 9) rfl ?_
      exact hk (x4, x5, (x6 + (1 : Int32)))
    · refine z_aload_n 0 dX1_chooseBay_26 rfl (z_getR zc1 1 (by decide) rfl gw102 hx0 (zW_some hW hx0 1 rfl) dX1_chooseBay_27 (z_iload 6 dX1_chooseBay_30 rfl ?_))
      refine z_chk (fun c4 => ?_)
      refine z_iald (zW_arr hW hx0 1 0 rfl) c4 dX1_chooseBay_32 (z_iconst dX1_chooseBay_33 zi_m1 ?_)
      refine z_icmp_ne 121 dX1_chooseBay_34 rfl (fun q5 => ?_) (fun q5 => ?_)
      · refine z_iinc (v := (x6 + (1 : Int32))) (lv' := [(6, .int (x6 + (1 : Int32))), (0, .ref x0), (1, .int x1), (2, .int x2), (3, .int x3), (4, .int x4), (5, .int x5)]) 6 dX1_chooseBay_121 rfl (zi_inc _ zi_1) (Nat.le_of_ble_eq_true rfl) rfl (z_goto 9 dX1_chooseBay_124 rfl ?_)
        refine z_sub (lv' := [(0, .ref x0), (1, .int x1), (2, .int x2), (3, .int x3), (4, .int x4), (5, .int x5), (6, .int (x6 + (1 : Int32)))]) [1, 2, 3, 4, 5, 6, 0] rfl ?_
        refine z_pc (pc' := 9) rfl ?_
        exact hk (x4, x5, (x6 + (1 : Int32)))
      · refine z_aload_n 0 dX1_chooseBay_37 rfl (z_iload 6 dX1_chooseBay_38 rfl ?_)
        refine z_bind (fun v6 hb7 => ?_)
        refine z_callV (kc' := 0) (ks' := 0) (v := (some (.int v6))) (S1 := S) (w1 := w) (st := []) [.int x6] (m_X1_carBefore hW w x0 hx0 x6 v6 hb7) zc1 hx0 zy_X1_carBefore gw286 gw287 gw285 (Nat.le_of_ble_eq_true rfl) (Nat.le_of_ble_eq_true rfl) (Nat.le_of_ble_eq_true rfl) (Nat.le_of_ble_eq_true rfl) (zal hW) rfl dX1_chooseBay_40 (z_at 43 _ [.int v6] rfl rfl rfl ?_)
        refine z_iconst dX1_chooseBay_43 zi_m1 ?_
        refine z_icmp_ne 121 dX1_chooseBay_44 rfl (fun q8 => ?_) (fun q8 => ?_)
        · refine z_iinc (v := (x6 + (1 : Int32))) (lv' := [(6, .int (x6 + (1 : Int32))), (0, .ref x0), (1, .int x1), (2, .int x2), (3, .int x3), (4, .int x4), (5, .int x5)]) 6 dX1_chooseBay_121 rfl (zi_inc _ zi_1) (Nat.le_of_ble_eq_true rfl) rfl (z_goto 9 dX1_chooseBay_124 rfl ?_)
          refine z_sub (lv' := [(0, .ref x0), (1, .int x1), (2, .int x2), (3, .int x3), (4, .int x4), (5, .int x5), (6, .int (x6 + (1 : Int32)))]) [1, 2, 3, 4, 5, 6, 0] rfl ?_
          refine z_pc (pc' := 9) rfl ?_
          exact hk (x4, x5, (x6 + (1 : Int32)))
        · refine z_iload_n 1 dX1_chooseBay_47 rfl (z_iconst dX1_chooseBay_48 zi_1 ?_)
          refine z_icmp_ne 63 dX1_chooseBay_49 rfl (fun q9 => ?_) (fun q9 => ?_)
          · refine z_pc (pc' := 63) rfl ?_
            exact m_X1_chooseBay_j63 hW w x0 hx0 x1 x2 x3 x4 x5 x6 k hk 
          · refine z_iload 6 dX1_chooseBay_52 rfl ?_
            refine z_bind (fun v18 hb19 => ?_)
            refine z_callSN (kc' := 0) (ks' := 0) (v := (some (.int v18))) (S1 := S) (w1 := w) (st := []) [.int x6] (m_X7_isWide hW w x6 v18 hb19) zy_X7_isWide gw309 zn_m3 (Nat.le_of_ble_eq_true rfl) (Nat.le_of_ble_eq_true rfl) (Nat.le_of_ble_eq_true rfl) (Nat.le_of_ble_eq_true rfl) (zal hW) rfl dX1_chooseBay_54 (z_at 57 _ [.int v18] rfl rfl rfl ?_)
            refine z_if_ne 63 dX1_chooseBay_57 rfl (fun q20 => ?_) (fun q20 => ?_)
            · refine z_pc (pc' := 63) rfl ?_
              exact m_X1_chooseBay_j63 hW w x0 hx0 x1 x2 x3 x4 x5 x6 k hk 
            · refine z_goto 121 dX1_chooseBay_60 rfl (z_iinc (v := (x6 + (1 : Int32))) (lv' := [(6, .int (x6 + (1 : Int32))), (0, .ref x0), (1, .int x1), (2, .int x2), (3, .int x3), (4, .int x4), (5, .int x5)]) 6 dX1_chooseBay_121 rfl (zi_inc _ zi_1) (Nat.le_of_ble_eq_true rfl) rfl (z_goto 9 dX1_chooseBay_124 rfl ?_))
              refine z_sub (lv' := [(0, .ref x0), (1, .int x1), (2, .int x2), (3, .int x3), (4, .int x4), (5, .int x5), (6, .int (x6 + (1 : Int32)))]) [1, 2, 3, 4, 5, 6, 0] rfl ?_
              refine z_pc (pc' := 9) rfl ?_
              exact hk (x4, x5, (x6 + (1 : Int32)))

def f_X1_chooseBay (S : Zs) (w : Zw) (a0 : Nat) (a1 : Int32) (a2 : Int32) (a3 : Int32) : Option (Int32) :=
  f_X1_chooseBay_l9 S w a0 a1 a2 a3 ((-1 : Int32), (0 : Int32), (0 : Int32))
theorem mw_X1_chooseBay {E : ZE} {S : Zs} (hW : zWF S) (w : Zw) (a0 : Nat) (h0 : zObj S a0 1) (a1 : Int32) (a2 : Int32) (a3 : Int32) : zOk (E, i_X1_chooseBay, 7) 0 0 S w 0 [(0, .ref a0), (1, .int a1), (2, .int a2), (3, .int a3)] [] (emP eI S w) (f_X1_chooseBay S w a0 a1 a2 a3) := by
  unfold f_X1_chooseBay
  refine z_iconst dX1_chooseBay_0 zi_m1 (z_istore (lv' := [(4, .int (-1 : Int32)), (0, .ref a0), (1, .int a1), (2, .int a2), (3, .int a3)]) dX1_chooseBay_1 (Nat.le_of_ble_eq_true rfl) rfl (z_iconst dX1_chooseBay_3 zi_0 (z_istore (lv' := [(5, .int (0 : Int32)), (4, .int (-1 : Int32)), (0, .ref a0), (1, .int a1), (2, .int a2), (3, .int a3)]) dX1_chooseBay_4 (Nat.le_of_ble_eq_true rfl) rfl (z_iconst dX1_chooseBay_6 zi_0 (z_istore (lv' := [(6, .int (0 : Int32)), (5, .int (0 : Int32)), (4, .int (-1 : Int32)), (0, .ref a0), (1, .int a1), (2, .int a2), (3, .int a3)]) dX1_chooseBay_7 (Nat.le_of_ble_eq_true rfl) rfl ?_)))))
  refine z_sub (lv' := [(0, .ref a0), (1, .int a1), (2, .int a2), (3, .int a3), (4, .int (-1 : Int32)), (5, .int (0 : Int32)), (6, .int (0 : Int32))]) [3, 4, 5, 6, 2, 1, 0] rfl ?_
  refine z_pc (pc' := 9) rfl ?_
  exact m_X1_chooseBay_l9 hW w a0 h0 a1 a2 a3 ((-1 : Int32), (0 : Int32), (0 : Int32))

theorem m_X1_chooseBay {E : ZE} {S : Zs} (hW : zWF S) (w : Zw) (a0 : Nat) (h0 : zObj S a0 1) (a1 : Int32) (a2 : Int32) (a3 : Int32) : ∀ i, f_X1_chooseBay S w a0 a1 a2 a3 = some i → zMr E yX1_chooseBay cX1_chooseBay 8 ((some .int)) 7 0 0 [.ref a0, .int a1, .int a2, .int a3] S w ((emP eI S w) i) :=
  fun i hi => z_enter (by decide +kernel) (Nat.le_of_ble_eq_true rfl) (mw_X1_chooseBay hW w a0 h0 a1 a2 a3 i hi)
/-! ParkingRobot$Garage.bayToFlee (I)I : P, depth 8 -/
abbrev i_X1_bayToFlee : Zm := (yX1_bayToFlee.cls, cX1_bayToFlee, 2, (some .int), [], yX1_bayToFlee.name)
def f_X1_bayToFlee (S : Zs) (w : Zw) (a0 : Nat) (a1 : Int32) : Option (Int32) :=
  if zin a1 (zlen S (zr S a0 2)) = true then if zin a1 (zlen S (zr S a0 3)) = true then if zin a1 (zlen S (zr S a0 4)) = true then (f_X1_chooseBay S w a0 (w (zr S a0 2) (zix a1)) (w (zr S a0 3) (zix a1)) (w (zr S a0 4) (zix a1))).bind fun v4 => some v4 else none else none else none
theorem mw_X1_bayToFlee {E : ZE} {S : Zs} (hW : zWF S) (w : Zw) (a0 : Nat) (h0 : zObj S a0 1) (a1 : Int32) : zOk (E, i_X1_bayToFlee, 8) 0 0 S w 0 [(0, .ref a0), (1, .int a1)] [] (emP eI S w) (f_X1_bayToFlee S w a0 a1) := by
  unfold f_X1_bayToFlee
  refine z_aload_n 0 dX1_bayToFlee_0 rfl (z_aload_n 0 dX1_bayToFlee_1 rfl (z_getR zc1 2 (by decide) rfl gw103 h0 (zW_some hW h0 2 rfl) dX1_bayToFlee_2 (z_iload_n 1 dX1_bayToFlee_5 rfl ?_)))
  refine z_chk (fun c1 => ?_)
  refine z_iald (zW_arr hW h0 2 0 rfl) c1 dX1_bayToFlee_6 (z_aload_n 0 dX1_bayToFlee_7 rfl (z_getR zc1 3 (by decide) rfl gw104 h0 (zW_some hW h0 3 rfl) dX1_bayToFlee_8 (z_iload_n 1 dX1_bayToFlee_11 rfl ?_)))
  refine z_chk (fun c2 => ?_)
  refine z_iald (zW_arr hW h0 3 0 rfl) c2 dX1_bayToFlee_12 (z_aload_n 0 dX1_bayToFlee_13 rfl (z_getR zc1 4 (by decide) rfl gw105 h0 (zW_some hW h0 4 rfl) dX1_bayToFlee_14 (z_iload_n 1 dX1_bayToFlee_17 rfl ?_)))
  refine z_chk (fun c3 => ?_)
  refine z_iald (zW_arr hW h0 4 0 rfl) c3 dX1_bayToFlee_18 ?_
  refine z_bind (fun v4 hb5 => ?_)
  refine z_callV (kc' := 0) (ks' := 0) (v := (some (.int v4))) (S1 := S) (w1 := w) (st := []) [.int (w (zr S a0 2) (zix a1)), .int (w (zr S a0 3) (zix a1)), .int (w (zr S a0 4) (zix a1))] (m_X1_chooseBay hW w a0 h0 (w (zr S a0 2) (zix a1)) (w (zr S a0 3) (zix a1)) (w (zr S a0 4) (zix a1)) v4 hb5) zc1 h0 zy_X1_chooseBay gw305 gw306 gw304 (Nat.le_of_ble_eq_true rfl) (Nat.le_of_ble_eq_true rfl) (Nat.le_of_ble_eq_true rfl) (Nat.le_of_ble_eq_true rfl) (zal hW) rfl dX1_bayToFlee_19 (z_at 22 _ [.int v4] rfl rfl rfl ?_)
  exact z_iret zemP rfl dX1_bayToFlee_22

theorem m_X1_bayToFlee {E : ZE} {S : Zs} (hW : zWF S) (w : Zw) (a0 : Nat) (h0 : zObj S a0 1) (a1 : Int32) : ∀ i, f_X1_bayToFlee S w a0 a1 = some i → zMr E yX1_bayToFlee cX1_bayToFlee 2 ((some .int)) 8 0 0 [.ref a0, .int a1] S w ((emP eI S w) i) :=
  fun i hi => z_enter (by decide +kernel) (Nat.le_of_ble_eq_true rfl) (mw_X1_bayToFlee hW w a0 h0 a1 i hi)
/-! ParkingRobot$Machine.start (I)I : W, depth 6 -/
abbrev i_X4_start : Zm := (yX4_start.cls, cX4_start, 2, (some .int), [], yX4_start.name)
def f_X4_start (S : Zs) (w : Zw) (a0 : Nat) (a1 : Int32) : Option (Int32 × Zw) :=
  zlet (zput w a0 2 (zmax a1 (w a0 2))) fun w1 => zlet (zput w1 a0 3 ((w1 a0 3) - (w1 a0 2))) fun w2 => some ((w2 a0 2), w2)
theorem mw_X4_start {E : ZE} {S : Zs} (hW : zWF S) (w : Zw) (a0 : Nat) (h0 : zObj S a0 4) (a1 : Int32) : zOk (E, i_X4_start, 6) 0 0 S w 0 [(0, .ref a0), (1, .int a1)] [] (emW eI S) (f_X4_start S w a0 a1) := by
  unfold f_X4_start
  refine z_aload_n 0 dX4_start_0 rfl (z_iload_n 1 dX4_start_1 rfl (z_aload_n 0 dX4_start_2 rfl (z_getI zc4 2 (by decide) rfl gw53 h0 dX4_start_3 (z_max gw345 (Nat.le_of_ble_eq_true rfl) (Nat.le_of_ble_eq_true rfl) dX4_start_6 ?_))))
  refine z_putI zc4 2 (by decide) (Or.inl rfl) rfl gw53 h0 dX4_start_9 (z_letw (fun w1 => ?_))
  refine z_aload_n 0 dX4_start_12 rfl (z_dup dX4_start_13 rfl (z_getI zc4 3 (by decide) rfl gw54 h0 dX4_start_14 (z_aload_n 0 dX4_start_17 rfl (z_getI zc4 2 (by decide) rfl gw53 h0 dX4_start_18 (z_isub dX4_start_21 ?_)))))
  refine z_putI zc4 3 (by decide) (Or.inl rfl) rfl gw54 h0 dX4_start_22 (z_letw (fun w2 => ?_))
  refine z_aload_n 0 dX4_start_25 rfl (z_getI zc4 2 (by decide) rfl gw53 h0 dX4_start_26 ?_)
  exact z_iret zemW rfl dX4_start_29

theorem m_X4_start {E : ZE} {S : Zs} (hW : zWF S) (w : Zw) (a0 : Nat) (h0 : zObj S a0 4) (a1 : Int32) : ∀ i, f_X4_start S w a0 a1 = some i → zMr E yX4_start cX4_start 2 ((some .int)) 6 0 0 [.ref a0, .int a1] S w ((emW eI S) i) :=
  fun i hi => z_enter (by decide +kernel) (Nat.le_of_ble_eq_true rfl) (mw_X4_start hW w a0 h0 a1 i hi)
/-! ParkingRobot$Machine.goTo (I)V : W, depth 6 -/
abbrev i_X4_goTo : Zm := (yX4_goTo.cls, cX4_goTo, 2, none, [], yX4_goTo.name)
def f_X4_goTo (S : Zs) (w : Zw) (a0 : Nat) (a1 : Int32) : Option (Unit × Zw) :=
  zlet (zput w a0 2 ((w a0 2) + ((zabs (a1 - (w a0 1))) * (w a0 0)))) fun w1 => zlet (zput w1 a0 1 a1) fun w2 => some ((), w2)
theorem mw_X4_goTo {E : ZE} {S : Zs} (hW : zWF S) (w : Zw) (a0 : Nat) (h0 : zObj S a0 4) (a1 : Int32) : zOk (E, i_X4_goTo, 6) 0 0 S w 0 [(0, .ref a0), (1, .int a1)] [] (emW eU S) (f_X4_goTo S w a0 a1) := by
  unfold f_X4_goTo
  refine z_aload_n 0 dX4_goTo_0 rfl (z_dup dX4_goTo_1 rfl (z_getI zc4 2 (by decide) rfl gw53 h0 dX4_goTo_2 (z_iload_n 1 dX4_goTo_5 rfl (z_aload_n 0 dX4_goTo_6 rfl (z_getI zc4 1 (by decide) rfl gw52 h0 dX4_goTo_7 ?_)))))
  refine z_isub dX4_goTo_10 (z_abs gw353 (Nat.le_of_ble_eq_true rfl) (Nat.le_of_ble_eq_true rfl) dX4_goTo_11 (z_aload_n 0 dX4_goTo_14 rfl (z_getI zc4 0 (by decide) rfl gw51 h0 dX4_goTo_15 (z_imul dX4_goTo_18 (z_iadd dX4_goTo_19 ?_)))))
  refine z_putI zc4 2 (by decide) (Or.inl rfl) rfl gw53 h0 dX4_goTo_20 (z_letw (fun w1 => ?_))
  refine z_aload_n 0 dX4_goTo_23 rfl (z_iload_n 1 dX4_goTo_24 rfl ?_)
  refine z_putI zc4 1 (by decide) (Or.inl rfl) rfl gw52 h0 dX4_goTo_25 (z_letw (fun w2 => ?_))
  exact z_vret zemW rfl dX4_goTo_28

theorem m_X4_goTo {E : ZE} {S : Zs} (hW : zWF S) (w : Zw) (a0 : Nat) (h0 : zObj S a0 4) (a1 : Int32) : ∀ i, f_X4_goTo S w a0 a1 = some i → zMr E yX4_goTo cX4_goTo 2 none 6 0 0 [.ref a0, .int a1] S w ((emW eU S) i) :=
  fun i hi => z_enter (by decide +kernel) (Nat.le_of_ble_eq_true rfl) (mw_X4_goTo hW w a0 h0 a1 i hi)
/-! ParkingRobot$Plant.workAt (I)I : T, depth 1 -/
abbrev i_X6_workAt : Zm := (yX6_workAt.cls, cX6_workAt, 1, (some .int), [], yX6_workAt.name)
def f_X6_workAt (a0 : Int32) : Int32 :=
  ((2 : Int32) + (f_X7_depthOf a0))
theorem mw_X6_workAt {E : ZE} {S : Zs} (hW : zWF S) (w : Zw) (a0 : Int32) : zOk (E, i_X6_workAt, 1) 0 0 S w 0 [(0, .int a0)] [] (emP eI S w) (some (f_X6_workAt a0)) := by
  unfold f_X6_workAt
  refine z_iconst dX6_workAt_0 zi_2 (z_iload_n 0 dX6_workAt_1 rfl ?_)
  refine z_callSN (kc' := 0) (ks' := 0) (v := (some (.int (f_X7_depthOf a0)))) (S1 := S) (w1 := w) (st := [.int (2 : Int32)]) [.int a0] (m_X7_depthOf hW w a0) zy_X7_depthOf gw290 zn_m9 (Nat.le_of_ble_eq_true rfl) (Nat.le_of_ble_eq_true rfl) (Nat.le_of_ble_eq_true rfl) (Nat.le_of_ble_eq_true rfl) (zal hW) rfl dX6_workAt_2 (z_at 5 _ [.int (f_X7_depthOf a0), .int (2 : Int32)] rfl rfl rfl ?_)
  refine z_iadd dX6_workAt_5 ?_
  exact z_iret zemP rfl dX6_workAt_6

theorem m_X6_workAt {E : ZE} {S : Zs} (hW : zWF S) (w : Zw) (a0 : Int32) : zMr E yX6_workAt cX6_workAt 1 ((some .int)) 1 0 0 [.int a0] S w (.inl (eI (f_X6_workAt a0)), S, w) :=
  z_enter (by decide +kernel) (Nat.le_of_ble_eq_true rfl) (mw_X6_workAt hW w a0 _ rfl)
/-! ParkingRobot$Machine.work (I)V : W, depth 0 -/
abbrev i_X4_work : Zm := (yX4_work.cls, cX4_work, 2, none, [], yX4_work.name)
def f_X4_work (S : Zs) (w : Zw) (a0 : Nat) (a1 : Int32) : Option (Unit × Zw) :=
  zlet (zput w a0 2 ((w a0 2) + a1)) fun w1 => some ((), w1)
theorem mw_X4_work {E : ZE} {S : Zs} (hW : zWF S) (w : Zw) (a0 : Nat) (h0 : zObj S a0 4) (a1 : Int32) : zOk (E, i_X4_work, 0) 0 0 S w 0 [(0, .ref a0), (1, .int a1)] [] (emW eU S) (f_X4_work S w a0 a1) := by
  unfold f_X4_work
  refine z_aload_n 0 dX4_work_0 rfl (z_dup dX4_work_1 rfl (z_getI zc4 2 (by decide) rfl gw53 h0 dX4_work_2 (z_iload_n 1 dX4_work_5 rfl (z_iadd dX4_work_6 ?_))))
  refine z_putI zc4 2 (by decide) (Or.inl rfl) rfl gw53 h0 dX4_work_7 (z_letw (fun w1 => ?_))
  exact z_vret zemW rfl dX4_work_10

theorem m_X4_work {E : ZE} {S : Zs} (hW : zWF S) (w : Zw) (a0 : Nat) (h0 : zObj S a0 4) (a1 : Int32) : ∀ i, f_X4_work S w a0 a1 = some i → zMr E yX4_work cX4_work 2 none 0 0 0 [.ref a0, .int a1] S w ((emW eU S) i) :=
  fun i hi => z_enter (by decide +kernel) (Nat.le_of_ble_eq_true rfl) (mw_X4_work hW w a0 h0 a1 i hi)
/-! ParkingRobot$Machine.finish ()I : W, depth 0 -/
abbrev i_X4_finish : Zm := (yX4_finish.cls, cX4_finish, 1, (some .int), [], yX4_finish.name)
def f_X4_finish (S : Zs) (w : Zw) (a0 : Nat) : Option (Int32 × Zw) :=
  zlet (zput w a0 3 ((w a0 3) + (w a0 2))) fun w1 => some ((w1 a0 2), w1)
theorem mw_X4_finish {E : ZE} {S : Zs} (hW : zWF S) (w : Zw) (a0 : Nat) (h0 : zObj S a0 4) : zOk (E, i_X4_finish, 0) 0 0 S w 0 [(0, .ref a0)] [] (emW eI S) (f_X4_finish S w a0) := by
  unfold f_X4_finish
  refine z_aload_n 0 dX4_finish_0 rfl (z_dup dX4_finish_1 rfl (z_getI zc4 3 (by decide) rfl gw54 h0 dX4_finish_2 (z_aload_n 0 dX4_finish_5 rfl (z_getI zc4 2 (by decide) rfl gw53 h0 dX4_finish_6 (z_iadd dX4_finish_9 ?_)))))
  refine z_putI zc4 3 (by decide) (Or.inl rfl) rfl gw54 h0 dX4_finish_10 (z_letw (fun w1 => ?_))
  refine z_aload_n 0 dX4_finish_13 rfl (z_getI zc4 2 (by decide) rfl gw53 h0 dX4_finish_14 ?_)
  exact z_iret zemW rfl dX4_finish_17

theorem m_X4_finish {E : ZE} {S : Zs} (hW : zWF S) (w : Zw) (a0 : Nat) (h0 : zObj S a0 4) : ∀ i, f_X4_finish S w a0 = some i → zMr E yX4_finish cX4_finish 1 ((some .int)) 0 0 0 [.ref a0] S w ((emW eI S) i) :=
  fun i hi => z_enter (by decide +kernel) (Nat.le_of_ble_eq_true rfl) (mw_X4_finish hW w a0 h0 i hi)
/-! ParkingRobot$JobLog.add (IIIII)V : W, depth 6 -/
abbrev i_X3_add : Zm := (yX3_add.cls, cX3_add, 7, none, [], yX3_add.name)
def f_X3_add (S : Zs) (w : Zw) (a0 : Nat) (a1 : Int32) (a2 : Int32) (a3 : Int32) (a4 : Int32) (a5 : Int32) : Option (Unit × Zw) :=
  zlet ((zrem (w a0 1) (20 : Int32)) * (5 : Int32)) fun z1 => if zin z1 (zlen S (zr S a0 0)) = true then zlet (zput w (zr S a0 0) (zix z1) a1) fun w3 => if zin (z1 + (1 : Int32)) (zlen S (zr S a0 0)) = true then zlet (zput w3 (zr S a0 0) (zix (z1 + (1 : Int32))) a2) fun w5 => if zin (z1 + (2 : Int32)) (zlen S (zr S a0 0)) = true then zlet (zput w5 (zr S a0 0) (zix (z1 + (2 : Int32))) a3) fun w7 => if zin (z1 + (3 : Int32)) (zlen S (zr S a0 0)) = true then zlet (zput w7 (zr S a0 0) (zix (z1 + (3 : Int32))) a4) fun w9 => if zin (z1 + (4 : Int32)) (zlen S (zr S a0 0)) = true then zlet (zput w9 (zr S a0 0) (zix (z1 + (4 : Int32))) a5) fun w11 => zlet (zput w11 a0 1 ((w11 a0 1) + (1 : Int32))) fun w12 => zlet (zput w12 a0 2 ((w12 a0 2) + (a5 - a4))) fun w13 => zlet (zput w13 a0 3 (zmax (w13 a0 3) a5)) fun w14 => some ((), w14) else none else none else none else none else none
theorem mw_X3_add {E : ZE} {S : Zs} (hW : zWF S) (w : Zw) (a0 : Nat) (h0 : zObj S a0 3) (a1 : Int32) (a2 : Int32) (a3 : Int32) (a4 : Int32) (a5 : Int32) : zOk (E, i_X3_add, 6) 0 0 S w 0 [(0, .ref a0), (1, .int a1), (2, .int a2), (3, .int a3), (4, .int a4), (5, .int a5)] [] (emW eU S) (f_X3_add S w a0 a1 a2 a3 a4 a5) := by
  unfold f_X3_add
  refine z_aload_n 0 dX3_add_0 rfl (z_getI zc3 1 (by decide) rfl gw73 h0 dX3_add_1 (z_bipush dX3_add_4 zb_20 (z_rem dX3_add_6 (by decide) (z_iconst dX3_add_7 zi_5 (z_imul dX3_add_8 ?_)))))
  refine z_let (a := ((zrem (w a0 1) (20 : Int32)) * (5 : Int32))) (fun z1 => [(0, .ref a0), (1, .int a1), (2, .int a2), (3, .int a3), (4, .int a4), (5, .int a5)]) (fun z1 => .int z1 :: []) (fun z1 => ?_)
  refine z_istore (lv' := [(6, .int z1), (0, .ref a0), (1, .int a1), (2, .int a2), (3, .int a3), (4, .int a4), (5, .int a5)]) dX3_add_9 (Nat.le_of_ble_eq_true rfl) rfl (z_aload_n 1 dX3_add_11 rfl (z_getR zc3 0 (by decide) rfl gw72 h0 (zW_some hW h0 0 rfl) dX3_add_12 (z_iload 0 dX3_add_15 rfl (z_iload_n 2 dX3_add_17 rfl ?_))))
  refine z_chk (fun c2 => ?_)
  refine z_iast (zW_arr hW h0 0 0 rfl) c2 dX3_add_18 (z_letw (fun w3 => ?_))
  refine z_aload_n 1 dX3_add_19 rfl (z_getR zc3 0 (by decide) rfl gw72 h0 (zW_some hW h0 0 rfl) dX3_add_20 (z_iload 0 dX3_add_23 rfl (z_iconst dX3_add_25 zi_1 (z_iadd dX3_add_26 (z_iload_n 3 dX3_add_27 rfl ?_)))))
  refine z_chk (fun c4 => ?_)
  refine z_iast (zW_arr hW h0 0 0 rfl) c4 dX3_add_28 (z_letw (fun w5 => ?_))
  refine z_aload_n 1 dX3_add_29 rfl (z_getR zc3 0 (by decide) rfl gw72 h0 (zW_some hW h0 0 rfl) dX3_add_30 (z_iload 0 dX3_add_33 rfl (z_iconst dX3_add_35 zi_2 (z_iadd dX3_add_36 (z_iload_n 4 dX3_add_37 rfl ?_)))))
  refine z_chk (fun c6 => ?_)
  refine z_iast (zW_arr hW h0 0 0 rfl) c6 dX3_add_38 (z_letw (fun w7 => ?_))
  refine z_aload_n 1 dX3_add_39 rfl (z_getR zc3 0 (by decide) rfl gw72 h0 (zW_some hW h0 0 rfl) dX3_add_40 (z_iload 0 dX3_add_43 rfl (z_iconst dX3_add_45 zi_3 (z_iadd dX3_add_46 (z_iload 5 dX3_add_47 rfl ?_)))))
  refine z_chk (fun c8 => ?_)
  refine z_iast (zW_arr hW h0 0 0 rfl) c8 dX3_add_49 (z_letw (fun w9 => ?_))
  refine z_aload_n 1 dX3_add_50 rfl (z_getR zc3 0 (by decide) rfl gw72 h0 (zW_some hW h0 0 rfl) dX3_add_51 (z_iload 0 dX3_add_54 rfl (z_iconst dX3_add_56 zi_4 (z_iadd dX3_add_57 (z_iload 6 dX3_add_58 rfl ?_)))))
  refine z_chk (fun c10 => ?_)
  refine z_iast (zW_arr hW h0 0 0 rfl) c10 dX3_add_60 (z_letw (fun w11 => ?_))
  refine z_aload_n 1 dX3_add_61 rfl (z_dup dX3_add_62 rfl (z_getI zc3 1 (by decide) rfl gw73 h0 dX3_add_63 (z_iconst dX3_add_66 zi_1 (z_iadd dX3_add_67 ?_))))
  refine z_putI zc3 1 (by decide) (Or.inl rfl) rfl gw73 h0 dX3_add_68 (z_letw (fun w12 => ?_))
  refine z_aload_n 1 dX3_add_71 rfl (z_dup dX3_add_72 rfl (z_getI zc3 2 (by decide) rfl gw74 h0 dX3_add_73 (z_iload 6 dX3_add_76 rfl (z_iload 5 dX3_add_78 rfl (z_isub dX3_add_80 ?_)))))
  refine z_iadd dX3_add_81 ?_
  refine z_putI zc3 2 (by decide) (Or.inl rfl) rfl gw74 h0 dX3_add_82 (z_letw (fun w13 => ?_))
  refine z_aload_n 1 dX3_add_85 rfl (z_aload_n 1 dX3_add_86 rfl (z_getI zc3 3 (by decide) rfl gw75 h0 dX3_add_87 (z_iload 6 dX3_add_90 rfl (z_max gw370 (Nat.le_of_ble_eq_true rfl) (Nat.le_of_ble_eq_true rfl) dX3_add_92 ?_))))
  refine z_putI zc3 3 (by decide) (Or.inl rfl) rfl gw75 h0 dX3_add_95 (z_letw (fun w14 => ?_))
  exact z_vret zemW rfl dX3_add_98

theorem m_X3_add {E : ZE} {S : Zs} (hW : zWF S) (w : Zw) (a0 : Nat) (h0 : zObj S a0 3) (a1 : Int32) (a2 : Int32) (a3 : Int32) (a4 : Int32) (a5 : Int32) : ∀ i, f_X3_add S w a0 a1 a2 a3 a4 a5 = some i → zMr E yX3_add cX3_add 7 none 6 0 0 [.ref a0, .int a1, .int a2, .int a3, .int a4, .int a5] S w ((emW eU S) i) :=
  fun i hi => z_enter (by decide +kernel) (Nat.le_of_ble_eq_true rfl) (mw_X3_add hW w a0 h0 a1 a2 a3 a4 a5 i hi)
/-! ParkingRobot$Plant.moveOnLevel (III)V : W, depth 7 -/
abbrev i_X6_moveOnLevel : Zm := (yX6_moveOnLevel.cls, cX6_moveOnLevel, 6, none, [], yX6_moveOnLevel.name)
def f_X6_moveOnLevel (S : Zs) (w : Zw) (a0 : Nat) (a1 : Int32) (a2 : Int32) (a3 : Int32) : Option (Unit × Zw) :=
  if zin (f_X7_levelOf a2) (zlen S (zr S a0 0)) = true then (f_X4_start S w (zr S (zr S a0 0) (zix (f_X7_levelOf a2))) (w a0 3)).bind fun r2 => (f_X4_goTo S r2.2 (zr S (zr S a0 0) (zix (f_X7_levelOf a2))) (f_X7_columnOf a2)).bind fun r4 => (f_X4_work S r4.2 (zr S (zr S a0 0) (zix (f_X7_levelOf a2))) (f_X6_workAt a2)).bind fun r6 => (f_X4_goTo S r6.2 (zr S (zr S a0 0) (zix (f_X7_levelOf a2))) (f_X7_columnOf a3)).bind fun r8 => (f_X4_work S r8.2 (zr S (zr S a0 0) (zix (f_X7_levelOf a2))) (f_X6_workAt a3)).bind fun r10 => (f_X4_finish S r10.2 (zr S (zr S a0 0) (zix (f_X7_levelOf a2)))).bind fun r12 => (f_X3_add S r12.2 (zr S a0 2) a1 a2 a3 r2.1 r12.1).bind fun r14 => some ((), r14.2) else none
theorem mw_X6_moveOnLevel {E : ZE} {S : Zs} (hW : zWF S) (w : Zw) (a0 : Nat) (h0 : zObj S a0 6) (a1 : Int32) (a2 : Int32) (a3 : Int32) : zOk (E, i_X6_moveOnLevel, 7) 0 0 S w 0 [(0, .ref a0), (1, .int a1), (2, .int a2), (3, .int a3)] [] (emW eU S) (f_X6_moveOnLevel S w a0 a1 a2 a3) := by
  unfold f_X6_moveOnLevel
  refine z_aload_n 0 dX6_moveOnLevel_0 rfl (z_getR zc6 0 (by decide) rfl gw85 h0 (zW_some hW h0 0 rfl) dX6_moveOnLevel_1 (z_iload_n 2 dX6_moveOnLevel_4 rfl ?_))
  refine z_callSN (kc' := 0) (ks' := 0) (v := (some (.int (f_X7_levelOf a2)))) (S1 := S) (w1 := w) (st := [.ref (zr S a0 0)]) [.int a2] (m_X7_levelOf hW w a2) zy_X7_levelOf gw318 zn_m7 (Nat.le_of_ble_eq_true rfl) (Nat.le_of_ble_eq_true rfl) (Nat.le_of_ble_eq_true rfl) (Nat.le_of_ble_eq_true rfl) (zal hW) rfl dX6_moveOnLevel_5 (z_at 8 _ [.int (f_X7_levelOf a2), .ref (zr S a0 0)] rfl rfl rfl ?_)
  refine z_chk (fun c1 => ?_)
  refine z_aald (Or.inl rfl) (zW_arr hW h0 0 5 rfl) c1 (zW_el5 hW (zW_arr hW h0 0 5 rfl) c1).1 dX6_moveOnLevel_8 (z_astore (lv' := [(4, .ref (zr S (zr S a0 0) (zix (f_X7_levelOf a2)))), (0, .ref a0), (1, .int a1), (2, .int a2), (3, .int a3)]) dX6_moveOnLevel_9 (Nat.le_of_ble_eq_true rfl) rfl (z_aload 0 dX6_moveOnLevel_11 rfl (z_aload_n 1 dX6_moveOnLevel_13 rfl (z_getI zc6 3 (by decide) rfl gw90 h0 dX6_moveOnLevel_14 ?_))))
  refine z_bind (fun r2 hb3 => ?_)
  refine z_callV (kc' := 0) (ks' := 0) (v := (some (.int r2.1))) (S1 := S) (w1 := r2.2) (st := []) [.int (w a0 3)] (m_X4_start hW w (zr S (zr S a0 0) (zix (f_X7_levelOf a2))) (zW_el5 hW (zW_arr hW h0 0 5 rfl) c1).2 (w a0 3) r2 hb3) zc4 (zW_el5 hW (zW_arr hW h0 0 5 rfl) c1).2 zy_X4_start gw342 gw343 gw341 (Nat.le_of_ble_eq_true rfl) (Nat.le_of_ble_eq_true rfl) (Nat.le_of_ble_eq_true rfl) (Nat.le_of_ble_eq_true rfl) (zal hW) rfl dX6_moveOnLevel_17 (z_at 20 _ [.int r2.1] rfl rfl rfl ?_)
  refine z_istore (lv' := [(5, .int r2.1), (4, .ref (zr S (zr S a0 0) (zix (f_X7_levelOf a2)))), (0, .ref a0), (1, .int a1), (2, .int a2), (3, .int a3)]) dX6_moveOnLevel_20 (Nat.le_of_ble_eq_true rfl) rfl (z_aload 1 dX6_moveOnLevel_22 rfl (z_iload_n 4 dX6_moveOnLevel_24 rfl ?_))
  refine z_callSN (kc' := 0) (ks' := 0) (v := (some (.int (f_X7_columnOf a2)))) (S1 := S) (w1 := r2.2) (st := [.ref (zr S (zr S a0 0) (zix (f_X7_levelOf a2)))]) [.int a2] (m_X7_columnOf hW r2.2 a2) zy_X7_columnOf gw312 zn_m8 (Nat.le_of_ble_eq_true rfl) (Nat.le_of_ble_eq_true rfl) (Nat.le_of_ble_eq_true rfl) (Nat.le_of_ble_eq_true rfl) (zal hW) rfl dX6_moveOnLevel_25 (z_at 28 _ [.int (f_X7_columnOf a2), .ref (zr S (zr S a0 0) (zix (f_X7_levelOf a2)))] rfl rfl rfl ?_)
  refine z_bind (fun r4 hb5 => ?_)
  refine z_callV (kc' := 0) (ks' := 0) (v := none) (S1 := S) (w1 := r4.2) (st := []) [.int (f_X7_columnOf a2)] (m_X4_goTo hW r2.2 (zr S (zr S a0 0) (zix (f_X7_levelOf a2))) (zW_el5 hW (zW_arr hW h0 0 5 rfl) c1).2 (f_X7_columnOf a2) r4 hb5) zc4 (zW_el5 hW (zW_arr hW h0 0 5 rfl) c1).2 zy_X4_goTo gw350 gw351 gw349 (Nat.le_of_ble_eq_true rfl) (Nat.le_of_ble_eq_true rfl) (Nat.le_of_ble_eq_true rfl) (Nat.le_of_ble_eq_true rfl) (zal hW) rfl dX6_moveOnLevel_28 (z_at 31 _ [] rfl rfl rfl ?_)
  refine z_aload 1 dX6_moveOnLevel_31 rfl (z_iload_n 4 dX6_moveOnLevel_33 rfl ?_)
  refine z_callS (kc' := 0) (ks' := 0) (v := (some (.int (f_X6_workAt a2)))) (S1 := S) (w1 := r4.2) (st := [.ref (zr S (zr S a0 0) (zix (f_X7_levelOf a2)))]) [.int a2] (m_X6_workAt hW r4.2 a2) zy_X6_workAt gw355 gw354 (Nat.le_of_ble_eq_true rfl) (Nat.le_of_ble_eq_true rfl) (Nat.le_of_ble_eq_true rfl) (Nat.le_of_ble_eq_true rfl) (zal hW) rfl dX6_moveOnLevel_34 (z_at 37 _ [.int (f_X6_workAt a2), .ref (zr S (zr S a0 0) (zix (f_X7_levelOf a2)))] rfl rfl rfl ?_)
  refine z_bind (fun r6 hb7 => ?_)
  refine z_callV (kc' := 0) (ks' := 0) (v := none) (S1 := S) (w1 := r6.2) (st := []) [.int (f_X6_workAt a2)] (m_X4_work hW r4.2 (zr S (zr S a0 0) (zix (f_X7_levelOf a2))) (zW_el5 hW (zW_arr hW h0 0 5 rfl) c1).2 (f_X6_workAt a2) r6 hb7) zc4 (zW_el5 hW (zW_arr hW h0 0 5 rfl) c1).2 zy_X4_work gw359 gw360 gw358 (Nat.le_of_ble_eq_true rfl) (Nat.le_of_ble_eq_true rfl) (Nat.le_of_ble_eq_true rfl) (Nat.le_of_ble_eq_true rfl) (zal hW) rfl dX6_moveOnLevel_37 (z_at 40 _ [] rfl rfl rfl ?_)
  refine z_aload 1 dX6_moveOnLevel_40 rfl (z_iload_n 5 dX6_moveOnLevel_42 rfl ?_)
  refine z_callSN (kc' := 0) (ks' := 0) (v := (some (.int (f_X7_columnOf a3)))) (S1 := S) (w1 := r6.2) (st := [.ref (zr S (zr S a0 0) (zix (f_X7_levelOf a2)))]) [.int a3] (m_X7_columnOf hW r6.2 a3) zy_X7_columnOf gw312 zn_m8 (Nat.le_of_ble_eq_true rfl) (Nat.le_of_ble_eq_true rfl) (Nat.le_of_ble_eq_true rfl) (Nat.le_of_ble_eq_true rfl) (zal hW) rfl dX6_moveOnLevel_43 (z_at 46 _ [.int (f_X7_columnOf a3), .ref (zr S (zr S a0 0) (zix (f_X7_levelOf a2)))] rfl rfl rfl ?_)
  refine z_bind (fun r8 hb9 => ?_)
  refine z_callV (kc' := 0) (ks' := 0) (v := none) (S1 := S) (w1 := r8.2) (st := []) [.int (f_X7_columnOf a3)] (m_X4_goTo hW r6.2 (zr S (zr S a0 0) (zix (f_X7_levelOf a2))) (zW_el5 hW (zW_arr hW h0 0 5 rfl) c1).2 (f_X7_columnOf a3) r8 hb9) zc4 (zW_el5 hW (zW_arr hW h0 0 5 rfl) c1).2 zy_X4_goTo gw350 gw351 gw349 (Nat.le_of_ble_eq_true rfl) (Nat.le_of_ble_eq_true rfl) (Nat.le_of_ble_eq_true rfl) (Nat.le_of_ble_eq_true rfl) (zal hW) rfl dX6_moveOnLevel_46 (z_at 49 _ [] rfl rfl rfl ?_)
  refine z_aload 1 dX6_moveOnLevel_49 rfl (z_iload_n 5 dX6_moveOnLevel_51 rfl ?_)
  refine z_callS (kc' := 0) (ks' := 0) (v := (some (.int (f_X6_workAt a3)))) (S1 := S) (w1 := r8.2) (st := [.ref (zr S (zr S a0 0) (zix (f_X7_levelOf a2)))]) [.int a3] (m_X6_workAt hW r8.2 a3) zy_X6_workAt gw355 gw354 (Nat.le_of_ble_eq_true rfl) (Nat.le_of_ble_eq_true rfl) (Nat.le_of_ble_eq_true rfl) (Nat.le_of_ble_eq_true rfl) (zal hW) rfl dX6_moveOnLevel_52 (z_at 55 _ [.int (f_X6_workAt a3), .ref (zr S (zr S a0 0) (zix (f_X7_levelOf a2)))] rfl rfl rfl ?_)
  refine z_bind (fun r10 hb11 => ?_)
  refine z_callV (kc' := 0) (ks' := 0) (v := none) (S1 := S) (w1 := r10.2) (st := []) [.int (f_X6_workAt a3)] (m_X4_work hW r8.2 (zr S (zr S a0 0) (zix (f_X7_levelOf a2))) (zW_el5 hW (zW_arr hW h0 0 5 rfl) c1).2 (f_X6_workAt a3) r10 hb11) zc4 (zW_el5 hW (zW_arr hW h0 0 5 rfl) c1).2 zy_X4_work gw359 gw360 gw358 (Nat.le_of_ble_eq_true rfl) (Nat.le_of_ble_eq_true rfl) (Nat.le_of_ble_eq_true rfl) (Nat.le_of_ble_eq_true rfl) (zal hW) rfl dX6_moveOnLevel_55 (z_at 58 _ [] rfl rfl rfl ?_)
  refine z_aload_n 2 dX6_moveOnLevel_58 rfl (z_getR zc6 2 (by decide) rfl gw88 h0 (zW_some hW h0 2 rfl) dX6_moveOnLevel_59 (z_iload_n 3 dX6_moveOnLevel_62 rfl (z_iload_n 4 dX6_moveOnLevel_63 rfl (z_iload_n 5 dX6_moveOnLevel_64 rfl (z_iload 0 dX6_moveOnLevel_65 rfl ?_)))))
  refine z_aload 1 dX6_moveOnLevel_67 rfl ?_
  refine z_bind (fun r12 hb13 => ?_)
  refine z_callV (kc' := 0) (ks' := 0) (v := (some (.int r12.1))) (S1 := S) (w1 := r12.2) (st := [.int r2.1, .int a3, .int a2, .int a1, .ref (zr S a0 2)]) [] (m_X4_finish hW r10.2 (zr S (zr S a0 0) (zix (f_X7_levelOf a2))) (zW_el5 hW (zW_arr hW h0 0 5 rfl) c1).2 r12 hb13) zc4 (zW_el5 hW (zW_arr hW h0 0 5 rfl) c1).2 zy_X4_finish gw363 gw364 gw362 (Nat.le_of_ble_eq_true rfl) (Nat.le_of_ble_eq_true rfl) (Nat.le_of_ble_eq_true rfl) (Nat.le_of_ble_eq_true rfl) (zal hW) rfl dX6_moveOnLevel_69 (z_at 72 _ [.int r12.1, .int r2.1, .int a3, .int a2, .int a1, .ref (zr S a0 2)] rfl rfl rfl ?_)
  refine z_bind (fun r14 hb15 => ?_)
  refine z_callV (kc' := 0) (ks' := 0) (v := none) (S1 := S) (w1 := r14.2) (st := []) [.int a1, .int a2, .int a3, .int r2.1, .int r12.1] (m_X3_add hW r12.2 (zr S a0 2) (zW_obj hW h0 2 3 rfl) a1 a2 a3 r2.1 r12.1 r14 hb15) zc3 (zW_obj hW h0 2 3 rfl) zy_X3_add gw367 gw368 gw366 (Nat.le_of_ble_eq_true rfl) (Nat.le_of_ble_eq_true rfl) (Nat.le_of_ble_eq_true rfl) (Nat.le_of_ble_eq_true rfl) (zal hW) rfl dX6_moveOnLevel_72 (z_at 75 _ [] rfl rfl rfl ?_)
  exact z_vret zemW rfl dX6_moveOnLevel_75

theorem m_X6_moveOnLevel {E : ZE} {S : Zs} (hW : zWF S) (w : Zw) (a0 : Nat) (h0 : zObj S a0 6) (a1 : Int32) (a2 : Int32) (a3 : Int32) : ∀ i, f_X6_moveOnLevel S w a0 a1 a2 a3 = some i → zMr E yX6_moveOnLevel cX6_moveOnLevel 6 none 7 0 0 [.ref a0, .int a1, .int a2, .int a3] S w ((emW eU S) i) :=
  fun i hi => z_enter (by decide +kernel) (Nat.le_of_ble_eq_true rfl) (mw_X6_moveOnLevel hW w a0 h0 a1 a2 a3 i hi)
/-! ParkingRobot$Machine.handOver (LParkingRobot$Machine;)V : W, depth 6 -/
abbrev i_X4_handOver : Zm := (yX4_handOver.cls, cX4_handOver, 3, none, [], yX4_handOver.name)
def f_X4_handOver (S : Zs) (w : Zw) (a0 : Nat) (a1 : Nat) : Option (Unit × Zw) :=
  zlet ((zmax (w a0 2) (w a1 2)) + (2 : Int32)) fun z1 => zlet (zput w a0 2 z1) fun w2 => zlet (zput w2 a1 2 z1) fun w3 => some ((), w3)
theorem mw_X4_handOver {E : ZE} {S : Zs} (hW : zWF S) (w : Zw) (a0 : Nat) (h0 : zObj S a0 4) (a1 : Nat) (h1 : zObj S a1 4) : zOk (E, i_X4_handOver, 6) 0 0 S w 0 [(0, .ref a0), (1, .ref a1)] [] (emW eU S) (f_X4_handOver S w a0 a1) := by
  unfold f_X4_handOver
  refine z_aload_n 0 dX4_handOver_0 rfl (z_getI zc4 2 (by decide) rfl gw53 h0 dX4_handOver_1 (z_aload_n 1 dX4_handOver_4 rfl (z_getI zc4 2 (by decide) rfl gw53 h1 dX4_handOver_5 (z_max gw345 (Nat.le_of_ble_eq_true rfl) (Nat.le_of_ble_eq_true rfl) dX4_handOver_8 (z_iconst dX4_handOver_11 zi_2 ?_)))))
  refine z_iadd dX4_handOver_12 ?_
  refine z_let (a := ((zmax (w a0 2) (w a1 2)) + (2 : Int32))) (fun z1 => [(0, .ref a0), (1, .ref a1)]) (fun z1 => .int z1 :: []) (fun z1 => ?_)
  refine z_istore_n (lv' := [(2, .int z1), (0, .ref a0), (1, .ref a1)]) dX4_handOver_13 (Nat.le_of_ble_eq_true rfl) rfl (z_aload_n 1 dX4_handOver_14 rfl (z_iload_n 0 dX4_handOver_15 rfl ?_))
  refine z_putI zc4 2 (by decide) (Or.inl rfl) rfl gw53 h0 dX4_handOver_16 (z_letw (fun w2 => ?_))
  refine z_aload_n 2 dX4_handOver_19 rfl (z_iload_n 0 dX4_handOver_20 rfl ?_)
  refine z_putI zc4 2 (by decide) (Or.inl rfl) rfl gw53 h1 dX4_handOver_21 (z_letw (fun w3 => ?_))
  exact z_vret zemW rfl dX4_handOver_24

theorem m_X4_handOver {E : ZE} {S : Zs} (hW : zWF S) (w : Zw) (a0 : Nat) (h0 : zObj S a0 4) (a1 : Nat) (h1 : zObj S a1 4) : ∀ i, f_X4_handOver S w a0 a1 = some i → zMr E yX4_handOver cX4_handOver 3 none 6 0 0 [.ref a0, .ref a1] S w ((emW eU S) i) :=
  fun i hi => z_enter (by decide +kernel) (Nat.le_of_ble_eq_true rfl) (mw_X4_handOver hW w a0 h0 a1 h1 i hi)
/-! ParkingRobot$Plant.moveToOtherLevel (III)V : W, depth 7 -/
abbrev i_X6_moveToOtherLevel : Zm := (yX6_moveToOtherLevel.cls, cX6_moveToOtherLevel, 8, none, [], yX6_moveToOtherLevel.name)
def f_X6_moveToOtherLevel (S : Zs) (w : Zw) (a0 : Nat) (a1 : Int32) (a2 : Int32) (a3 : Int32) : Option (Unit × Zw) :=
  if zin (f_X7_levelOf a2) (zlen S (zr S a0 0)) = true then if zin (f_X7_levelOf a3) (zlen S (zr S a0 0)) = true then (f_X4_start S w (zr S a0 1) (w a0 3)).bind fun r3 => (f_X4_start S r3.2 (zr S (zr S a0 0) (zix (f_X7_levelOf a2))) (r3.2 a0 3)).bind fun r5 => (f_X4_start S r5.2 (zr S (zr S a0 0) (zix (f_X7_levelOf a3))) (r5.2 a0 3)).bind fun r7 => zlet (zmin r3.1 (zmin r5.1 r7.1)) fun z9 => (f_X4_goTo S r7.2 (zr S (zr S a0 0) (zix (f_X7_levelOf a2))) (f_X7_columnOf a2)).bind fun r10 => (f_X4_work S r10.2 (zr S (zr S a0 0) (zix (f_X7_levelOf a2))) (f_X6_workAt a2)).bind fun r12 => (f_X4_goTo S r12.2 (zr S (zr S a0 0) (zix (f_X7_levelOf a2))) (0 : Int32)).bind fun r14 => (f_X4_goTo S r14.2 (zr S a0 1) (f_X7_levelOf a2)).bind fun r16 => (f_X4_handOver S r16.2 (zr S (zr S a0 0) (zix (f_X7_levelOf a2))) (zr S a0 1)).bind fun r18 => (f_X4_goTo S r18.2 (zr S a0 1) (f_X7_levelOf a3)).bind fun r20 => (f_X4_goTo S r20.2 (zr S (zr S a0 0) (zix (f_X7_levelOf a3))) (0 : Int32)).bind fun r22 => (f_X4_handOver S r22.2 (zr S a0 1) (zr S (zr S a0 0) (zix (f_X7_levelOf a3)))).bind fun r24 => (f_X4_goTo S r24.2 (zr S (zr S a0 0) (zix (f_X7_levelOf a3))) (f_X7_columnOf a3)).bind fun r26 => (f_X4_work S r26.2 (zr S (zr S a0 0) (zix (f_X7_levelOf a3))) (f_X6_workAt a3)).bind fun r28 => (f_X4_finish S r28.2 (zr S a0 1)).bind fun r30 => (f_X4_finish S r30.2 (zr S (zr S a0 0) (zix (f_X7_levelOf a2)))).bind fun r32 => (f_X4_finish S r32.2 (zr S (zr S a0 0) (zix (f_X7_levelOf a3)))).bind fun r34 => zlet (zmax r30.1 (zmax r32.1 r34.1)) fun z36 => (f_X3_add S r34.2 (zr S a0 2) a1 a2 a3 z9 z36).bind fun r37 => some ((), r37.2) else none else none
theorem mw_X6_moveToOtherLevel {E : ZE} {S : Zs} (hW : zWF S) (w : Zw) (a0 : Nat) (h0 : zObj S a0 6) (a1 : Int32) (a2 : Int32) (a3 : Int32) : zOk (E, i_X6_moveToOtherLevel, 7) 0 0 S w 0 [(0, .ref a0), (1, .int a1), (2, .int a2), (3, .int a3)] [] (emW eU S) (f_X6_moveToOtherLevel S w a0 a1 a2 a3) := by
  unfold f_X6_moveToOtherLevel
  refine z_aload_n 0 dX6_moveToOtherLevel_0 rfl (z_getR zc6 0 (by decide) rfl gw85 h0 (zW_some hW h0 0 rfl) dX6_moveToOtherLevel_1 (z_iload_n 2 dX6_moveToOtherLevel_4 rfl ?_))
  refine z_callSN (kc' := 0) (ks' := 0) (v := (some (.int (f_X7_levelOf a2)))) (S1 := S) (w1 := w) (st := [.ref (zr S a0 0)]) [.int a2] (m_X7_levelOf hW w a2) zy_X7_levelOf gw318 zn_m7 (Nat.le_of_ble_eq_true rfl) (Nat.le_of_ble_eq_true rfl) (Nat.le_of_ble_eq_true rfl) (Nat.le_of_ble_eq_true rfl) (zal hW) rfl dX6_moveToOtherLevel_5 (z_at 8 _ [.int (f_X7_levelOf a2), .ref (zr S a0 0)] rfl rfl rfl ?_)
  refine z_chk (fun c1 => ?_)
  refine z_aald (Or.inl rfl) (zW_arr hW h0 0 5 rfl) c1 (zW_el5 hW (zW_arr hW h0 0 5 rfl) c1).1 dX6_moveToOtherLevel_8 (z_astore (lv' := [(4, .ref (zr S (zr S a0 0) (zix (f_X7_levelOf a2)))), (0, .ref a0), (1, .int a1), (2, .int a2), (3, .int a3)]) dX6_moveToOtherLevel_9 (Nat.le_of_ble_eq_true rfl) rfl (z_aload_n 1 dX6_moveToOtherLevel_11 rfl (z_getR zc6 0 (by decide) rfl gw85 h0 (zW_some hW h0 0 rfl) dX6_moveToOtherLevel_12 (z_iload_n 4 dX6_moveToOtherLevel_15 rfl ?_))))
  refine z_callSN (kc' := 0) (ks' := 0) (v := (some (.int (f_X7_levelOf a3)))) (S1 := S) (w1 := w) (st := [.ref (zr S a0 0)]) [.int a3] (m_X7_levelOf hW w a3) zy_X7_levelOf gw318 zn_m7 (Nat.le_of_ble_eq_true rfl) (Nat.le_of_ble_eq_true rfl) (Nat.le_of_ble_eq_true rfl) (Nat.le_of_ble_eq_true rfl) (zal hW) rfl dX6_moveToOtherLevel_16 (z_at 19 _ [.int (f_X7_levelOf a3), .ref (zr S a0 0)] rfl rfl rfl ?_)
  refine z_chk (fun c2 => ?_)
  refine z_aald (Or.inl rfl) (zW_arr hW h0 0 5 rfl) c2 (zW_el5 hW (zW_arr hW h0 0 5 rfl) c2).1 dX6_moveToOtherLevel_19 (z_astore (lv' := [(5, .ref (zr S (zr S a0 0) (zix (f_X7_levelOf a3)))), (4, .ref (zr S (zr S a0 0) (zix (f_X7_levelOf a2)))), (0, .ref a0), (1, .int a1), (2, .int a2), (3, .int a3)]) dX6_moveToOtherLevel_20 (Nat.le_of_ble_eq_true rfl) rfl (z_aload_n 2 dX6_moveToOtherLevel_22 rfl (z_getR zc6 1 (by decide) rfl gw87 h0 (zW_some hW h0 1 rfl) dX6_moveToOtherLevel_23 (z_aload_n 2 dX6_moveToOtherLevel_26 rfl (z_getI zc6 3 (by decide) rfl gw90 h0 dX6_moveToOtherLevel_27 ?_)))))
  refine z_bind (fun r3 hb4 => ?_)
  refine z_callV (kc' := 0) (ks' := 0) (v := (some (.int r3.1))) (S1 := S) (w1 := r3.2) (st := []) [.int (w a0 3)] (m_X4_start hW w (zr S a0 1) (zW_obj hW h0 1 4 rfl) (w a0 3) r3 hb4) zc4 (zW_obj hW h0 1 4 rfl) zy_X4_start gw342 gw343 gw341 (Nat.le_of_ble_eq_true rfl) (Nat.le_of_ble_eq_true rfl) (Nat.le_of_ble_eq_true rfl) (Nat.le_of_ble_eq_true rfl) (zal hW) rfl dX6_moveToOtherLevel_30 (z_at 33 _ [.int r3.1] rfl rfl rfl ?_)
  refine z_aload 1 dX6_moveToOtherLevel_33 rfl (z_aload_n 2 dX6_moveToOtherLevel_35 rfl (z_getI zc6 3 (by decide) rfl gw90 h0 dX6_moveToOtherLevel_36 ?_))
  refine z_bind (fun r5 hb6 => ?_)
  refine z_callV (kc' := 0) (ks' := 0) (v := (some (.int r5.1))) (S1 := S) (w1 := r5.2) (st := [.int r3.1]) [.int (r3.2 a0 3)] (m_X4_start hW r3.2 (zr S (zr S a0 0) (zix (f_X7_levelOf a2))) (zW_el5 hW (zW_arr hW h0 0 5 rfl) c1).2 (r3.2 a0 3) r5 hb6) zc4 (zW_el5 hW (zW_arr hW h0 0 5 rfl) c1).2 zy_X4_start gw342 gw343 gw341 (Nat.le_of_ble_eq_true rfl) (Nat.le_of_ble_eq_true rfl) (Nat.le_of_ble_eq_true rfl) (Nat.le_of_ble_eq_true rfl) (zal hW) rfl dX6_moveToOtherLevel_39 (z_at 42 _ [.int r5.1, .int r3.1] rfl rfl rfl ?_)
  refine z_aload 0 dX6_moveToOtherLevel_42 rfl (z_aload_n 2 dX6_moveToOtherLevel_44 rfl (z_getI zc6 3 (by decide) rfl gw90 h0 dX6_moveToOtherLevel_45 ?_))
  refine z_bind (fun r7 hb8 => ?_)
  refine z_callV (kc' := 0) (ks' := 0) (v := (some (.int r7.1))) (S1 := S) (w1 := r7.2) (st := [.int r5.1, .int r3.1]) [.int (r5.2 a0 3)] (m_X4_start hW r5.2 (zr S (zr S a0 0) (zix (f_X7_levelOf a3))) (zW_el5 hW (zW_arr hW h0 0 5 rfl) c2).2 (r5.2 a0 3) r7 hb8) zc4 (zW_el5 hW (zW_arr hW h0 0 5 rfl) c2).2 zy_X4_start gw342 gw343 gw341 (Nat.le_of_ble_eq_true rfl) (Nat.le_of_ble_eq_true rfl) (Nat.le_of_ble_eq_true rfl) (Nat.le_of_ble_eq_true rfl) (zal hW) rfl dX6_moveToOtherLevel_48 (z_at 51 _ [.int r7.1, .int r5.1, .int r3.1] rfl rfl rfl ?_)
  refine z_min gw375 (Nat.le_of_ble_eq_true rfl) (Nat.le_of_ble_eq_true rfl) dX6_moveToOtherLevel_51 (z_min gw375 (Nat.le_of_ble_eq_true rfl) (Nat.le_of_ble_eq_true rfl) dX6_moveToOtherLevel_54 ?_)
  refine z_let (a := (zmin r3.1 (zmin r5.1 r7.1))) (fun z9 => [(5, .ref (zr S (zr S a0 0) (zix (f_X7_levelOf a3)))), (4, .ref (zr S (zr S a0 0) (zix (f_X7_levelOf a2)))), (0, .ref a0), (1, .int a1), (2, .int a2), (3, .int a3)]) (fun z9 => .int z9 :: []) (fun z9 => ?_)
  refine z_istore (lv' := [(6, .int z9), (5, .ref (zr S (zr S a0 0) (zix (f_X7_levelOf a3)))), (4, .ref (zr S (zr S a0 0) (zix (f_X7_levelOf a2)))), (0, .ref a0), (1, .int a1), (2, .int a2), (3, .int a3)]) dX6_moveToOtherLevel_57 (Nat.le_of_ble_eq_true rfl) rfl (z_aload 2 dX6_moveToOtherLevel_59 rfl (z_iload_n 5 dX6_moveToOtherLevel_61 rfl ?_))
  refine z_callSN (kc' := 0) (ks' := 0) (v := (some (.int (f_X7_columnOf a2)))) (S1 := S) (w1 := r7.2) (st := [.ref (zr S (zr S a0 0) (zix (f_X7_levelOf a2)))]) [.int a2] (m_X7_columnOf hW r7.2 a2) zy_X7_columnOf gw312 zn_m8 (Nat.le_of_ble_eq_true rfl) (Nat.le_of_ble_eq_true rfl) (Nat.le_of_ble_eq_true rfl) (Nat.le_of_ble_eq_true rfl) (zal hW) rfl dX6_moveToOtherLevel_62 (z_at 65 _ [.int (f_X7_columnOf a2), .ref (zr S (zr S a0 0) (zix (f_X7_levelOf a2)))] rfl rfl rfl ?_)
  refine z_bind (fun r10 hb11 => ?_)
  refine z_callV (kc' := 0) (ks' := 0) (v := none) (S1 := S) (w1 := r10.2) (st := []) [.int (f_X7_columnOf a2)] (m_X4_goTo hW r7.2 (zr S (zr S a0 0) (zix (f_X7_levelOf a2))) (zW_el5 hW (zW_arr hW h0 0 5 rfl) c1).2 (f_X7_columnOf a2) r10 hb11) zc4 (zW_el5 hW (zW_arr hW h0 0 5 rfl) c1).2 zy_X4_goTo gw350 gw351 gw349 (Nat.le_of_ble_eq_true rfl) (Nat.le_of_ble_eq_true rfl) (Nat.le_of_ble_eq_true rfl) (Nat.le_of_ble_eq_true rfl) (zal hW) rfl dX6_moveToOtherLevel_65 (z_at 68 _ [] rfl rfl rfl ?_)
  refine z_aload 2 dX6_moveToOtherLevel_68 rfl (z_iload_n 5 dX6_moveToOtherLevel_70 rfl ?_)
  refine z_callS (kc' := 0) (ks' := 0) (v := (some (.int (f_X6_workAt a2)))) (S1 := S) (w1 := r10.2) (st := [.ref (zr S (zr S a0 0) (zix (f_X7_levelOf a2)))]) [.int a2] (m_X6_workAt hW r10.2 a2) zy_X6_workAt gw355 gw354 (Nat.le_of_ble_eq_true rfl) (Nat.le_of_ble_eq_true rfl) (Nat.le_of_ble_eq_true rfl) (Nat.le_of_ble_eq_true rfl) (zal hW) rfl dX6_moveToOtherLevel_71 (z_at 74 _ [.int (f_X6_workAt a2), .ref (zr S (zr S a0 0) (zix (f_X7_levelOf a2)))] rfl rfl rfl ?_)
  refine z_bind (fun r12 hb13 => ?_)
  refine z_callV (kc' := 0) (ks' := 0) (v := none) (S1 := S) (w1 := r12.2) (st := []) [.int (f_X6_workAt a2)] (m_X4_work hW r10.2 (zr S (zr S a0 0) (zix (f_X7_levelOf a2))) (zW_el5 hW (zW_arr hW h0 0 5 rfl) c1).2 (f_X6_workAt a2) r12 hb13) zc4 (zW_el5 hW (zW_arr hW h0 0 5 rfl) c1).2 zy_X4_work gw359 gw360 gw358 (Nat.le_of_ble_eq_true rfl) (Nat.le_of_ble_eq_true rfl) (Nat.le_of_ble_eq_true rfl) (Nat.le_of_ble_eq_true rfl) (zal hW) rfl dX6_moveToOtherLevel_74 (z_at 77 _ [] rfl rfl rfl ?_)
  refine z_aload 2 dX6_moveToOtherLevel_77 rfl (z_iconst dX6_moveToOtherLevel_79 zi_0 ?_)
  refine z_bind (fun r14 hb15 => ?_)
  refine z_callV (kc' := 0) (ks' := 0) (v := none) (S1 := S) (w1 := r14.2) (st := []) [.int (0 : Int32)] (m_X4_goTo hW r12.2 (zr S (zr S a0 0) (zix (f_X7_levelOf a2))) (zW_el5 hW (zW_arr hW h0 0 5 rfl) c1).2 (0 : Int32) r14 hb15) zc4 (zW_el5 hW (zW_arr hW h0 0 5 rfl) c1).2 zy_X4_goTo gw350 gw351 gw349 (Nat.le_of_ble_eq_true rfl) (Nat.le_of_ble_eq_true rfl) (Nat.le_of_ble_eq_true rfl) (Nat.le_of_ble_eq_true rfl) (zal hW) rfl dX6_moveToOtherLevel_80 (z_at 83 _ [] rfl rfl rfl ?_)
  refine z_aload_n 3 dX6_moveToOtherLevel_83 rfl (z_getR zc6 1 (by decide) rfl gw87 h0 (zW_some hW h0 1 rfl) dX6_moveToOtherLevel_84 (z_iload_n 5 dX6_moveToOtherLevel_87 rfl ?_))
  refine z_callSN (kc' := 0) (ks' := 0) (v := (some (.int (f_X7_levelOf a2)))) (S1 := S) (w1 := r14.2) (st := [.ref (zr S a0 1)]) [.int a2] (m_X7_levelOf hW r14.2 a2) zy_X7_levelOf gw318 zn_m7 (Nat.le_of_ble_eq_true rfl) (Nat.le_of_ble_eq_true rfl) (Nat.le_of_ble_eq_true rfl) (Nat.le_of_ble_eq_true rfl) (zal hW) rfl dX6_moveToOtherLevel_88 (z_at 91 _ [.int (f_X7_levelOf a2), .ref (zr S a0 1)] rfl rfl rfl ?_)
  refine z_bind (fun r16 hb17 => ?_)
  refine z_callV (kc' := 0) (ks' := 0) (v := none) (S1 := S) (w1 := r16.2) (st := []) [.int (f_X7_levelOf a2)] (m_X4_goTo hW r14.2 (zr S a0 1) (zW_obj hW h0 1 4 rfl) (f_X7_levelOf a2) r16 hb17) zc4 (zW_obj hW h0 1 4 rfl) zy_X4_goTo gw350 gw351 gw349 (Nat.le_of_ble_eq_true rfl) (Nat.le_of_ble_eq_true rfl) (Nat.le_of_ble_eq_true rfl) (Nat.le_of_ble_eq_true rfl) (zal hW) rfl dX6_moveToOtherLevel_91 (z_at 94 _ [] rfl rfl rfl ?_)
  refine z_aload 2 dX6_moveToOtherLevel_94 rfl (z_aload_n 3 dX6_moveToOtherLevel_96 rfl (z_getR zc6 1 (by decide) rfl gw87 h0 (zW_some hW h0 1 rfl) dX6_moveToOtherLevel_97 ?_))
  refine z_bind (fun r18 hb19 => ?_)
  refine z_callV (kc' := 0) (ks' := 0) (v := none) (S1 := S) (w1 := r18.2) (st := []) [.ref (zr S a0 1)] (m_X4_handOver hW r16.2 (zr S (zr S a0 0) (zix (f_X7_levelOf a2))) (zW_el5 hW (zW_arr hW h0 0 5 rfl) c1).2 (zr S a0 1) (zW_obj hW h0 1 4 rfl) r18 hb19) zc4 (zW_el5 hW (zW_arr hW h0 0 5 rfl) c1).2 zy_X4_handOver gw379 gw380 gw378 (Nat.le_of_ble_eq_true rfl) (Nat.le_of_ble_eq_true rfl) (Nat.le_of_ble_eq_true rfl) (Nat.le_of_ble_eq_true rfl) (zal hW) rfl dX6_moveToOtherLevel_100 (z_at 103 _ [] rfl rfl rfl ?_)
  refine z_aload_n 3 dX6_moveToOtherLevel_103 rfl (z_getR zc6 1 (by decide) rfl gw87 h0 (zW_some hW h0 1 rfl) dX6_moveToOtherLevel_104 (z_iload_n 6 dX6_moveToOtherLevel_107 rfl ?_))
  refine z_callSN (kc' := 0) (ks' := 0) (v := (some (.int (f_X7_levelOf a3)))) (S1 := S) (w1 := r18.2) (st := [.ref (zr S a0 1)]) [.int a3] (m_X7_levelOf hW r18.2 a3) zy_X7_levelOf gw318 zn_m7 (Nat.le_of_ble_eq_true rfl) (Nat.le_of_ble_eq_true rfl) (Nat.le_of_ble_eq_true rfl) (Nat.le_of_ble_eq_true rfl) (zal hW) rfl dX6_moveToOtherLevel_108 (z_at 111 _ [.int (f_X7_levelOf a3), .ref (zr S a0 1)] rfl rfl rfl ?_)
  refine z_bind (fun r20 hb21 => ?_)
  refine z_callV (kc' := 0) (ks' := 0) (v := none) (S1 := S) (w1 := r20.2) (st := []) [.int (f_X7_levelOf a3)] (m_X4_goTo hW r18.2 (zr S a0 1) (zW_obj hW h0 1 4 rfl) (f_X7_levelOf a3) r20 hb21) zc4 (zW_obj hW h0 1 4 rfl) zy_X4_goTo gw350 gw351 gw349 (Nat.le_of_ble_eq_true rfl) (Nat.le_of_ble_eq_true rfl) (Nat.le_of_ble_eq_true rfl) (Nat.le_of_ble_eq_true rfl) (zal hW) rfl dX6_moveToOtherLevel_111 (z_at 114 _ [] rfl rfl rfl ?_)
  refine z_aload 1 dX6_moveToOtherLevel_114 rfl (z_iconst dX6_moveToOtherLevel_116 zi_0 ?_)
  refine z_bind (fun r22 hb23 => ?_)
  refine z_callV (kc' := 0) (ks' := 0) (v := none) (S1 := S) (w1 := r22.2) (st := []) [.int (0 : Int32)] (m_X4_goTo hW r20.2 (zr S (zr S a0 0) (zix (f_X7_levelOf a3))) (zW_el5 hW (zW_arr hW h0 0 5 rfl) c2).2 (0 : Int32) r22 hb23) zc4 (zW_el5 hW (zW_arr hW h0 0 5 rfl) c2).2 zy_X4_goTo gw350 gw351 gw349 (Nat.le_of_ble_eq_true rfl) (Nat.le_of_ble_eq_true rfl) (Nat.le_of_ble_eq_true rfl) (Nat.le_of_ble_eq_true rfl) (zal hW) rfl dX6_moveToOtherLevel_117 (z_at 120 _ [] rfl rfl rfl ?_)
  refine z_aload_n 3 dX6_moveToOtherLevel_120 rfl (z_getR zc6 1 (by decide) rfl gw87 h0 (zW_some hW h0 1 rfl) dX6_moveToOtherLevel_121 (z_aload 1 dX6_moveToOtherLevel_124 rfl ?_))
  refine z_bind (fun r24 hb25 => ?_)
  refine z_callV (kc' := 0) (ks' := 0) (v := none) (S1 := S) (w1 := r24.2) (st := []) [.ref (zr S (zr S a0 0) (zix (f_X7_levelOf a3)))] (m_X4_handOver hW r22.2 (zr S a0 1) (zW_obj hW h0 1 4 rfl) (zr S (zr S a0 0) (zix (f_X7_levelOf a3))) (zW_el5 hW (zW_arr hW h0 0 5 rfl) c2).2 r24 hb25) zc4 (zW_obj hW h0 1 4 rfl) zy_X4_handOver gw379 gw380 gw378 (Nat.le_of_ble_eq_true rfl) (Nat.le_of_ble_eq_true rfl) (Nat.le_of_ble_eq_true rfl) (Nat.le_of_ble_eq_true rfl) (zal hW) rfl dX6_moveToOtherLevel_126 (z_at 129 _ [] rfl rfl rfl ?_)
  refine z_aload 1 dX6_moveToOtherLevel_129 rfl (z_iload_n 6 dX6_moveToOtherLevel_131 rfl ?_)
  refine z_callSN (kc' := 0) (ks' := 0) (v := (some (.int (f_X7_columnOf a3)))) (S1 := S) (w1 := r24.2) (st := [.ref (zr S (zr S a0 0) (zix (f_X7_levelOf a3)))]) [.int a3] (m_X7_columnOf hW r24.2 a3) zy_X7_columnOf gw312 zn_m8 (Nat.le_of_ble_eq_true rfl) (Nat.le_of_ble_eq_true rfl) (Nat.le_of_ble_eq_true rfl) (Nat.le_of_ble_eq_true rfl) (zal hW) rfl dX6_moveToOtherLevel_132 (z_at 135 _ [.int (f_X7_columnOf a3), .ref (zr S (zr S a0 0) (zix (f_X7_levelOf a3)))] rfl rfl rfl ?_)
  refine z_bind (fun r26 hb27 => ?_)
  refine z_callV (kc' := 0) (ks' := 0) (v := none) (S1 := S) (w1 := r26.2) (st := []) [.int (f_X7_columnOf a3)] (m_X4_goTo hW r24.2 (zr S (zr S a0 0) (zix (f_X7_levelOf a3))) (zW_el5 hW (zW_arr hW h0 0 5 rfl) c2).2 (f_X7_columnOf a3) r26 hb27) zc4 (zW_el5 hW (zW_arr hW h0 0 5 rfl) c2).2 zy_X4_goTo gw350 gw351 gw349 (Nat.le_of_ble_eq_true rfl) (Nat.le_of_ble_eq_true rfl) (Nat.le_of_ble_eq_true rfl) (Nat.le_of_ble_eq_true rfl) (zal hW) rfl dX6_moveToOtherLevel_135 (z_at 138 _ [] rfl rfl rfl ?_)
  refine z_aload 1 dX6_moveToOtherLevel_138 rfl (z_iload_n 6 dX6_moveToOtherLevel_140 rfl ?_)
  refine z_callS (kc' := 0) (ks' := 0) (v := (some (.int (f_X6_workAt a3)))) (S1 := S) (w1 := r26.2) (st := [.ref (zr S (zr S a0 0) (zix (f_X7_levelOf a3)))]) [.int a3] (m_X6_workAt hW r26.2 a3) zy_X6_workAt gw355 gw354 (Nat.le_of_ble_eq_true rfl) (Nat.le_of_ble_eq_true rfl) (Nat.le_of_ble_eq_true rfl) (Nat.le_of_ble_eq_true rfl) (zal hW) rfl dX6_moveToOtherLevel_141 (z_at 144 _ [.int (f_X6_workAt a3), .ref (zr S (zr S a0 0) (zix (f_X7_levelOf a3)))] rfl rfl rfl ?_)
  refine z_bind (fun r28 hb29 => ?_)
  refine z_callV (kc' := 0) (ks' := 0) (v := none) (S1 := S) (w1 := r28.2) (st := []) [.int (f_X6_workAt a3)] (m_X4_work hW r26.2 (zr S (zr S a0 0) (zix (f_X7_levelOf a3))) (zW_el5 hW (zW_arr hW h0 0 5 rfl) c2).2 (f_X6_workAt a3) r28 hb29) zc4 (zW_el5 hW (zW_arr hW h0 0 5 rfl) c2).2 zy_X4_work gw359 gw360 gw358 (Nat.le_of_ble_eq_true rfl) (Nat.le_of_ble_eq_true rfl) (Nat.le_of_ble_eq_true rfl) (Nat.le_of_ble_eq_true rfl) (zal hW) rfl dX6_moveToOtherLevel_144 (z_at 147 _ [] rfl rfl rfl ?_)
  refine z_aload_n 3 dX6_moveToOtherLevel_147 rfl (z_getR zc6 1 (by decide) rfl gw87 h0 (zW_some hW h0 1 rfl) dX6_moveToOtherLevel_148 ?_)
  refine z_bind (fun r30 hb31 => ?_)
  refine z_callV (kc' := 0) (ks' := 0) (v := (some (.int r30.1))) (S1 := S) (w1 := r30.2) (st := []) [] (m_X4_finish hW r28.2 (zr S a0 1) (zW_obj hW h0 1 4 rfl) r30 hb31) zc4 (zW_obj hW h0 1 4 rfl) zy_X4_finish gw363 gw364 gw362 (Nat.le_of_ble_eq_true rfl) (Nat.le_of_ble_eq_true rfl) (Nat.le_of_ble_eq_true rfl) (Nat.le_of_ble_eq_true rfl) (zal hW) rfl dX6_moveToOtherLevel_151 (z_at 154 _ [.int r30.1] rfl rfl rfl ?_)
  refine z_aload 2 dX6_moveToOtherLevel_154 rfl ?_
  refine z_bind (fun r32 hb33 => ?_)
  refine z_callV (kc' := 0) (ks' := 0) (v := (some (.int r32.1))) (S1 := S) (w1 := r32.2) (st := [.int r30.1]) [] (m_X4_finish hW r30.2 (zr S (zr S a0 0) (zix (f_X7_levelOf a2))) (zW_el5 hW (zW_arr hW h0 0 5 rfl) c1).2 r32 hb33) zc4 (zW_el5 hW (zW_arr hW h0 0 5 rfl) c1).2 zy_X4_finish gw363 gw364 gw362 (Nat.le_of_ble_eq_true rfl) (Nat.le_of_ble_eq_true rfl) (Nat.le_of_ble_eq_true rfl) (Nat.le_of_ble_eq_true rfl) (zal hW) rfl dX6_moveToOtherLevel_156 (z_at 159 _ [.int r32.1, .int r30.1] rfl rfl rfl ?_)
  refine z_aload 1 dX6_moveToOtherLevel_159 rfl ?_
  refine z_bind (fun r34 hb35 => ?_)
  refine z_callV (kc' := 0) (ks' := 0) (v := (some (.int r34.1))) (S1 := S) (w1 := r34.2) (st := [.int r32.1, .int r30.1]) [] (m_X4_finish hW r32.2 (zr S (zr S a0 0) (zix (f_X7_levelOf a3))) (zW_el5 hW (zW_arr hW h0 0 5 rfl) c2).2 r34 hb35) zc4 (zW_el5 hW (zW_arr hW h0 0 5 rfl) c2).2 zy_X4_finish gw363 gw364 gw362 (Nat.le_of_ble_eq_true rfl) (Nat.le_of_ble_eq_true rfl) (Nat.le_of_ble_eq_true rfl) (Nat.le_of_ble_eq_true rfl) (zal hW) rfl dX6_moveToOtherLevel_161 (z_at 164 _ [.int r34.1, .int r32.1, .int r30.1] rfl rfl rfl ?_)
  refine z_max gw382 (Nat.le_of_ble_eq_true rfl) (Nat.le_of_ble_eq_true rfl) dX6_moveToOtherLevel_164 (z_max gw382 (Nat.le_of_ble_eq_true rfl) (Nat.le_of_ble_eq_true rfl) dX6_moveToOtherLevel_167 ?_)
  refine z_let (a := (zmax r30.1 (zmax r32.1 r34.1))) (fun z36 => [(6, .int z9), (5, .ref (zr S (zr S a0 0) (zix (f_X7_levelOf a3)))), (4, .ref (zr S (zr S a0 0) (zix (f_X7_levelOf a2)))), (0, .ref a0), (1, .int a1), (2, .int a2), (3, .int a3)]) (fun z36 => .int z36 :: []) (fun z36 => ?_)
  refine z_istore (lv' := [(7, .int z36), (6, .int z9), (5, .ref (zr S (zr S a0 0) (zix (f_X7_levelOf a3)))), (4, .ref (zr S (zr S a0 0) (zix (f_X7_levelOf a2)))), (0, .ref a0), (1, .int a1), (2, .int a2), (3, .int a3)]) dX6_moveToOtherLevel_170 (Nat.le_of_ble_eq_true rfl) rfl (z_aload_n 4 dX6_moveToOtherLevel_172 rfl (z_getR zc6 2 (by decide) rfl gw88 h0 (zW_some hW h0 2 rfl) dX6_moveToOtherLevel_173 (z_iload_n 5 dX6_moveToOtherLevel_176 rfl (z_iload_n 6 dX6_moveToOtherLevel_177 rfl (z_iload_n 7 dX6_moveToOtherLevel_178 rfl ?_)))))
  refine z_iload 1 dX6_moveToOtherLevel_179 rfl (z_iload 0 dX6_moveToOtherLevel_181 rfl ?_)
  refine z_bind (fun r37 hb38 => ?_)
  refine z_callV (kc' := 0) (ks' := 0) (v := none) (S1 := S) (w1 := r37.2) (st := []) [.int a1, .int a2, .int a3, .int z9, .int z36] (m_X3_add hW r34.2 (zr S a0 2) (zW_obj hW h0 2 3 rfl) a1 a2 a3 z9 z36 r37 hb38) zc3 (zW_obj hW h0 2 3 rfl) zy_X3_add gw367 gw368 gw366 (Nat.le_of_ble_eq_true rfl) (Nat.le_of_ble_eq_true rfl) (Nat.le_of_ble_eq_true rfl) (Nat.le_of_ble_eq_true rfl) (zal hW) rfl dX6_moveToOtherLevel_183 (z_at 186 _ [] rfl rfl rfl ?_)
  exact z_vret zemW rfl dX6_moveToOtherLevel_186

theorem m_X6_moveToOtherLevel {E : ZE} {S : Zs} (hW : zWF S) (w : Zw) (a0 : Nat) (h0 : zObj S a0 6) (a1 : Int32) (a2 : Int32) (a3 : Int32) : ∀ i, f_X6_moveToOtherLevel S w a0 a1 a2 a3 = some i → zMr E yX6_moveToOtherLevel cX6_moveToOtherLevel 8 none 7 0 0 [.ref a0, .int a1, .int a2, .int a3] S w ((emW eU S) i) :=
  fun i hi => z_enter (by decide +kernel) (Nat.le_of_ble_eq_true rfl) (mw_X6_moveToOtherLevel hW w a0 h0 a1 a2 a3 i hi)
/-! ParkingRobot$Garage.moveCar (II)V : W, depth 8 -/
abbrev i_X1_moveCar : Zm := (yX1_moveCar.cls, cX1_moveCar, 4, none, [], yX1_moveCar.name)
def f_X1_moveCar_j41 (S : Zs) (w : Zw) (x0 : Nat) (x1 : Int32) (x2 : Int32) (x3 : Int32) : Option (Unit × Zw) :=
  if zin x3 (zlen S (zr S x0 1)) = true then zlet (zput w (zr S x0 1) (zix x3) (-1 : Int32)) fun w7 => if zin x2 (zlen S (zr S x0 1)) = true then zlet (zput w7 (zr S x0 1) (zix x2) x1) fun w9 => if zin x1 (zlen S (zr S x0 4)) = true then zlet (zput w9 (zr S x0 4) (zix x1) x2) fun w11 => if zin x1 (zlen S (zr S x0 5)) = true then if zin x1 (zlen S (zr S x0 5)) = true then zlet (zput w11 (zr S x0 5) (zix x1) ((w11 (zr S x0 5) (zix x1)) + (1 : Int32))) fun w14 => zlet (zput w14 x0 10 ((w14 x0 10) + (1 : Int32))) fun w15 => some ((), w15) else none else none else none else none else none
theorem m_X1_moveCar_j41 {E : ZE} {S : Zs} (hW : zWF S) (w : Zw) (x0 : Nat) (hx0 : zObj S x0 1) (x1 : Int32) (x2 : Int32) (x3 : Int32) : zOk (E, i_X1_moveCar, 8) 0 0 S w 41 [(0, .ref x0), (1, .int x1), (2, .int x2), (3, .int x3)] [] (emW eU S) (f_X1_moveCar_j41 S w x0 x1 x2 x3) := by
  unfold f_X1_moveCar_j41
  refine z_aload_n 0 dX1_moveCar_41 rfl (z_getR zc1 1 (by decide) rfl gw102 hx0 (zW_some hW hx0 1 rfl) dX1_moveCar_42 (z_iload_n 3 dX1_moveCar_45 rfl (z_iconst dX1_moveCar_46 zi_m1 ?_)))
  refine z_chk (fun c6 => ?_)
  refine z_iast (zW_arr hW hx0 1 0 rfl) c6 dX1_moveCar_47 (z_letw (fun w7 => ?_))
  refine z_aload_n 0 dX1_moveCar_48 rfl (z_getR zc1 1 (by decide) rfl gw102 hx0 (zW_some hW hx0 1 rfl) dX1_moveCar_49 (z_iload_n 2 dX1_moveCar_52 rfl (z_iload_n 1 dX1_moveCar_53 rfl ?_)))
  refine z_chk (fun c8 => ?_)
  refine z_iast (zW_arr hW hx0 1 0 rfl) c8 dX1_moveCar_54 (z_letw (fun w9 => ?_))
  refine z_aload_n 0 dX1_moveCar_55 rfl (z_getR zc1 4 (by decide) rfl gw105 hx0 (zW_some hW hx0 4 rfl) dX1_moveCar_56 (z_iload_n 1 dX1_moveCar_59 rfl (z_iload_n 2 dX1_moveCar_60 rfl ?_)))
  refine z_chk (fun c10 => ?_)
  refine z_iast (zW_arr hW hx0 4 0 rfl) c10 dX1_moveCar_61 (z_letw (fun w11 => ?_))
  refine z_aload_n 0 dX1_moveCar_62 rfl (z_getR zc1 5 (by decide) rfl gw106 hx0 (zW_some hW hx0 5 rfl) dX1_moveCar_63 (z_iload_n 1 dX1_moveCar_66 rfl (z_dup2_11 dX1_moveCar_67 rfl rfl ?_)))
  refine z_chk (fun c12 => ?_)
  refine z_iald (zW_arr hW hx0 5 0 rfl) c12 dX1_moveCar_68 (z_iconst dX1_moveCar_69 zi_1 (z_iadd dX1_moveCar_70 ?_))
  refine z_chk (fun c13 => ?_)
  refine z_iast (zW_arr hW hx0 5 0 rfl) c13 dX1_moveCar_71 (z_letw (fun w14 => ?_))
  refine z_aload_n 0 dX1_moveCar_72 rfl (z_dup dX1_moveCar_73 rfl (z_getI zc1 10 (by decide) rfl gw111 hx0 dX1_moveCar_74 (z_iconst dX1_moveCar_77 zi_1 (z_iadd dX1_moveCar_78 ?_))))
  refine z_putI zc1 10 (by decide) (Or.inl rfl) rfl gw111 hx0 dX1_moveCar_79 (z_letw (fun w15 => ?_))
  exact z_vret zemW rfl dX1_moveCar_82

def f_X1_moveCar (S : Zs) (w : Zw) (a0 : Nat) (a1 : Int32) (a2 : Int32) : Option (Unit × Zw) :=
  if zin a1 (zlen S (zr S a0 4)) = true then zlet (w (zr S a0 4) (zix a1)) fun z2 => if (f_X7_levelOf z2) = (f_X7_levelOf a2) then (f_X6_moveOnLevel S w (zr S a0 7) a1 z2 a2).bind fun r16 => f_X1_moveCar_j41 S r16.2 a0 a1 a2 z2  else (f_X6_moveToOtherLevel S w (zr S a0 7) a1 z2 a2).bind fun r4 => f_X1_moveCar_j41 S r4.2 a0 a1 a2 z2  else none
theorem mw_X1_moveCar {E : ZE} {S : Zs} (hW : zWF S) (w : Zw) (a0 : Nat) (h0 : zObj S a0 1) (a1 : Int32) (a2 : Int32) : zOk (E, i_X1_moveCar, 8) 0 0 S w 0 [(0, .ref a0), (1, .int a1), (2, .int a2)] [] (emW eU S) (f_X1_moveCar S w a0 a1 a2) := by
  unfold f_X1_moveCar
  refine z_aload_n 0 dX1_moveCar_0 rfl (z_getR zc1 4 (by decide) rfl gw105 h0 (zW_some hW h0 4 rfl) dX1_moveCar_1 (z_iload_n 1 dX1_moveCar_4 rfl ?_))
  refine z_chk (fun c1 => ?_)
  refine z_iald (zW_arr hW h0 4 0 rfl) c1 dX1_moveCar_5 ?_
  refine z_let (a := (w (zr S a0 4) (zix a1))) (fun z2 => [(0, .ref a0), (1, .int a1), (2, .int a2)]) (fun z2 => .int z2 :: []) (fun z2 => ?_)
  refine z_istore_n (lv' := [(3, .int z2), (0, .ref a0), (1, .int a1), (2, .int a2)]) dX1_moveCar_6 (Nat.le_of_ble_eq_true rfl) rfl (z_iload_n 0 dX1_moveCar_7 rfl ?_)
  refine z_callSN (kc' := 0) (ks' := 0) (v := (some (.int (f_X7_levelOf z2)))) (S1 := S) (w1 := w) (st := []) [.int z2] (m_X7_levelOf hW w z2) zy_X7_levelOf gw318 zn_m6 (Nat.le_of_ble_eq_true rfl) (Nat.le_of_ble_eq_true rfl) (Nat.le_of_ble_eq_true rfl) (Nat.le_of_ble_eq_true rfl) (zal hW) rfl dX1_moveCar_8 (z_at 11 _ [.int (f_X7_levelOf z2)] rfl rfl rfl ?_)
  refine z_iload_n 3 dX1_moveCar_11 rfl ?_
  refine z_callSN (kc' := 0) (ks' := 0) (v := (some (.int (f_X7_levelOf a2)))) (S1 := S) (w1 := w) (st := [.int (f_X7_levelOf z2)]) [.int a2] (m_X7_levelOf hW w a2) zy_X7_levelOf gw318 zn_m6 (Nat.le_of_ble_eq_true rfl) (Nat.le_of_ble_eq_true rfl) (Nat.le_of_ble_eq_true rfl) (Nat.le_of_ble_eq_true rfl) (zal hW) rfl dX1_moveCar_12 (z_at 15 _ [.int (f_X7_levelOf a2), .int (f_X7_levelOf z2)] rfl rfl rfl ?_)
  refine z_icmp_ne 31 dX1_moveCar_15 rfl (fun q3 => ?_) (fun q3 => ?_)
  · refine z_aload_n 1 dX1_moveCar_31 rfl (z_getR zc1 7 (by decide) rfl gw108 h0 (zW_some hW h0 7 rfl) dX1_moveCar_32 (z_iload_n 2 dX1_moveCar_35 rfl (z_iload_n 0 dX1_moveCar_36 rfl (z_iload_n 3 dX1_moveCar_37 rfl ?_))))
    refine z_bind (fun r4 hb5 => ?_)
    refine z_callV (kc' := 0) (ks' := 0) (v := none) (S1 := S) (w1 := r4.2) (st := []) [.int a1, .int z2, .int a2] (m_X6_moveToOtherLevel hW w (zr S a0 7) (zW_obj hW h0 7 6 rfl) a1 z2 a2 r4 hb5) zc6 (zW_obj hW h0 7 6 rfl) zy_X6_moveToOtherLevel gw372 gw373 gw371 (Nat.le_of_ble_eq_true rfl) (Nat.le_of_ble_eq_true rfl) (Nat.le_of_ble_eq_true rfl) (Nat.le_of_ble_eq_true rfl) (zal hW) rfl dX1_moveCar_38 (z_at 41 _ [] rfl rfl rfl ?_)
    refine z_sub (lv' := [(0, .ref a0), (1, .int a1), (2, .int a2), (3, .int z2)]) [1, 2, 3, 0] rfl ?_
    refine z_pc (pc' := 41) rfl ?_
    exact m_X1_moveCar_j41 hW r4.2 a0 h0 a1 a2 z2 
  · refine z_aload_n 1 dX1_moveCar_18 rfl (z_getR zc1 7 (by decide) rfl gw108 h0 (zW_some hW h0 7 rfl) dX1_moveCar_19 (z_iload_n 2 dX1_moveCar_22 rfl (z_iload_n 0 dX1_moveCar_23 rfl (z_iload_n 3 dX1_moveCar_24 rfl ?_))))
    refine z_bind (fun r16 hb17 => ?_)
    refine z_callV (kc' := 0) (ks' := 0) (v := none) (S1 := S) (w1 := r16.2) (st := []) [.int a1, .int z2, .int a2] (m_X6_moveOnLevel hW w (zr S a0 7) (zW_obj hW h0 7 6 rfl) a1 z2 a2 r16 hb17) zc6 (zW_obj hW h0 7 6 rfl) zy_X6_moveOnLevel gw337 gw338 gw336 (Nat.le_of_ble_eq_true rfl) (Nat.le_of_ble_eq_true rfl) (Nat.le_of_ble_eq_true rfl) (Nat.le_of_ble_eq_true rfl) (zal hW) rfl dX1_moveCar_25 (z_at 28 _ [] rfl rfl rfl ?_)
    refine z_goto 41 dX1_moveCar_28 rfl ?_
    refine z_sub (lv' := [(0, .ref a0), (1, .int a1), (2, .int a2), (3, .int z2)]) [1, 2, 3, 0] rfl ?_
    refine z_pc (pc' := 41) rfl ?_
    exact m_X1_moveCar_j41 hW r16.2 a0 h0 a1 a2 z2 

theorem m_X1_moveCar {E : ZE} {S : Zs} (hW : zWF S) (w : Zw) (a0 : Nat) (h0 : zObj S a0 1) (a1 : Int32) (a2 : Int32) : ∀ i, f_X1_moveCar S w a0 a1 a2 = some i → zMr E yX1_moveCar cX1_moveCar 4 none 8 0 0 [.ref a0, .int a1, .int a2] S w ((emW eU S) i) :=
  fun i hi => z_enter (by decide +kernel) (Nat.le_of_ble_eq_true rfl) (mw_X1_moveCar hW w a0 h0 a1 a2 i hi)
/-! ParkingRobot$Plant.bringOut (II)V : W, depth 7 -/
abbrev i_X6_bringOut : Zm := (yX6_bringOut.cls, cX6_bringOut, 6, none, [], yX6_bringOut.name)
def f_X6_bringOut (S : Zs) (w : Zw) (a0 : Nat) (a1 : Int32) (a2 : Int32) : Option (Unit × Zw) :=
  if zin (f_X7_levelOf a2) (zlen S (zr S a0 0)) = true then (f_X4_start S w (zr S a0 1) (w a0 3)).bind fun r2 => (f_X4_start S r2.2 (zr S (zr S a0 0) (zix (f_X7_levelOf a2))) (r2.2 a0 3)).bind fun r4 => zlet (zmin r2.1 r4.1) fun z6 => (f_X4_goTo S r4.2 (zr S (zr S a0 0) (zix (f_X7_levelOf a2))) (f_X7_columnOf a2)).bind fun r7 => (f_X4_work S r7.2 (zr S (zr S a0 0) (zix (f_X7_levelOf a2))) (f_X6_workAt a2)).bind fun r9 => (f_X4_goTo S r9.2 (zr S (zr S a0 0) (zix (f_X7_levelOf a2))) (0 : Int32)).bind fun r11 => (f_X4_goTo S r11.2 (zr S a0 1) (f_X7_levelOf a2)).bind fun r13 => (f_X4_handOver S r13.2 (zr S (zr S a0 0) (zix (f_X7_levelOf a2))) (zr S a0 1)).bind fun r15 => (f_X4_goTo S r15.2 (zr S a0 1) (0 : Int32)).bind fun r17 => (f_X4_work S r17.2 (zr S a0 1) (2 : Int32)).bind fun r19 => (f_X4_finish S r19.2 (zr S a0 1)).bind fun r21 => (f_X4_finish S r21.2 (zr S (zr S a0 0) (zix (f_X7_levelOf a2)))).bind fun r23 => zlet (zmax r21.1 r23.1) fun z25 => (f_X3_add S r23.2 (zr S a0 2) a1 a2 (-1 : Int32) z6 z25).bind fun r26 => some ((), r26.2) else none
theorem mw_X6_bringOut {E : ZE} {S : Zs} (hW : zWF S) (w : Zw) (a0 : Nat) (h0 : zObj S a0 6) (a1 : Int32) (a2 : Int32) : zOk (E, i_X6_bringOut, 7) 0 0 S w 0 [(0, .ref a0), (1, .int a1), (2, .int a2)] [] (emW eU S) (f_X6_bringOut S w a0 a1 a2) := by
  unfold f_X6_bringOut
  refine z_aload_n 0 dX6_bringOut_0 rfl (z_getR zc6 0 (by decide) rfl gw85 h0 (zW_some hW h0 0 rfl) dX6_bringOut_1 (z_iload_n 2 dX6_bringOut_4 rfl ?_))
  refine z_callSN (kc' := 0) (ks' := 0) (v := (some (.int (f_X7_levelOf a2)))) (S1 := S) (w1 := w) (st := [.ref (zr S a0 0)]) [.int a2] (m_X7_levelOf hW w a2) zy_X7_levelOf gw318 zn_m7 (Nat.le_of_ble_eq_true rfl) (Nat.le_of_ble_eq_true rfl) (Nat.le_of_ble_eq_true rfl) (Nat.le_of_ble_eq_true rfl) (zal hW) rfl dX6_bringOut_5 (z_at 8 _ [.int (f_X7_levelOf a2), .ref (zr S a0 0)] rfl rfl rfl ?_)
  refine z_chk (fun c1 => ?_)
  refine z_aald (Or.inl rfl) (zW_arr hW h0 0 5 rfl) c1 (zW_el5 hW (zW_arr hW h0 0 5 rfl) c1).1 dX6_bringOut_8 (z_astore_n (lv' := [(3, .ref (zr S (zr S a0 0) (zix (f_X7_levelOf a2)))), (0, .ref a0), (1, .int a1), (2, .int a2)]) dX6_bringOut_9 (Nat.le_of_ble_eq_true rfl) rfl (z_aload_n 1 dX6_bringOut_10 rfl (z_getR zc6 1 (by decide) rfl gw87 h0 (zW_some hW h0 1 rfl) dX6_bringOut_11 (z_aload_n 1 dX6_bringOut_14 rfl (z_getI zc6 3 (by decide) rfl gw90 h0 dX6_bringOut_15 ?_)))))
  refine z_bind (fun r2 hb3 => ?_)
  refine z_callV (kc' := 0) (ks' := 0) (v := (some (.int r2.1))) (S1 := S) (w1 := r2.2) (st := []) [.int (w a0 3)] (m_X4_start hW w (zr S a0 1) (zW_obj hW h0 1 4 rfl) (w a0 3) r2 hb3) zc4 (zW_obj hW h0 1 4 rfl) zy_X4_start gw342 gw343 gw341 (Nat.le_of_ble_eq_true rfl) (Nat.le_of_ble_eq_true rfl) (Nat.le_of_ble_eq_true rfl) (Nat.le_of_ble_eq_true rfl) (zal hW) rfl dX6_bringOut_18 (z_at 21 _ [.int r2.1] rfl rfl rfl ?_)
  refine z_aload_n 0 dX6_bringOut_21 rfl (z_aload_n 1 dX6_bringOut_22 rfl (z_getI zc6 3 (by decide) rfl gw90 h0 dX6_bringOut_23 ?_))
  refine z_bind (fun r4 hb5 => ?_)
  refine z_callV (kc' := 0) (ks' := 0) (v := (some (.int r4.1))) (S1 := S) (w1 := r4.2) (st := [.int r2.1]) [.int (r2.2 a0 3)] (m_X4_start hW r2.2 (zr S (zr S a0 0) (zix (f_X7_levelOf a2))) (zW_el5 hW (zW_arr hW h0 0 5 rfl) c1).2 (r2.2 a0 3) r4 hb5) zc4 (zW_el5 hW (zW_arr hW h0 0 5 rfl) c1).2 zy_X4_start gw342 gw343 gw341 (Nat.le_of_ble_eq_true rfl) (Nat.le_of_ble_eq_true rfl) (Nat.le_of_ble_eq_true rfl) (Nat.le_of_ble_eq_true rfl) (zal hW) rfl dX6_bringOut_26 (z_at 29 _ [.int r4.1, .int r2.1] rfl rfl rfl ?_)
  refine z_min gw375 (Nat.le_of_ble_eq_true rfl) (Nat.le_of_ble_eq_true rfl) dX6_bringOut_29 ?_
  refine z_let (a := (zmin r2.1 r4.1)) (fun z6 => [(3, .ref (zr S (zr S a0 0) (zix (f_X7_levelOf a2)))), (0, .ref a0), (1, .int a1), (2, .int a2)]) (fun z6 => .int z6 :: []) (fun z6 => ?_)
  refine z_istore (lv' := [(4, .int z6), (3, .ref (zr S (zr S a0 0) (zix (f_X7_levelOf a2)))), (0, .ref a0), (1, .int a1), (2, .int a2)]) dX6_bringOut_32 (Nat.le_of_ble_eq_true rfl) rfl (z_aload_n 1 dX6_bringOut_34 rfl (z_iload_n 4 dX6_bringOut_35 rfl ?_))
  refine z_callSN (kc' := 0) (ks' := 0) (v := (some (.int (f_X7_columnOf a2)))) (S1 := S) (w1 := r4.2) (st := [.ref (zr S (zr S a0 0) (zix (f_X7_levelOf a2)))]) [.int a2] (m_X7_columnOf hW r4.2 a2) zy_X7_columnOf gw312 zn_m8 (Nat.le_of_ble_eq_true rfl) (Nat.le_of_ble_eq_true rfl) (Nat.le_of_ble_eq_true rfl) (Nat.le_of_ble_eq_true rfl) (zal hW) rfl dX6_bringOut_36 (z_at 39 _ [.int (f_X7_columnOf a2), .ref (zr S (zr S a0 0) (zix (f_X7_levelOf a2)))] rfl rfl rfl ?_)
  refine z_bind (fun r7 hb8 => ?_)
  refine z_callV (kc' := 0) (ks' := 0) (v := none) (S1 := S) (w1 := r7.2) (st := []) [.int (f_X7_columnOf a2)] (m_X4_goTo hW r4.2 (zr S (zr S a0 0) (zix (f_X7_levelOf a2))) (zW_el5 hW (zW_arr hW h0 0 5 rfl) c1).2 (f_X7_columnOf a2) r7 hb8) zc4 (zW_el5 hW (zW_arr hW h0 0 5 rfl) c1).2 zy_X4_goTo gw350 gw351 gw349 (Nat.le_of_ble_eq_true rfl) (Nat.le_of_ble_eq_true rfl) (Nat.le_of_ble_eq_true rfl) (Nat.le_of_ble_eq_true rfl) (zal hW) rfl dX6_bringOut_39 (z_at 42 _ [] rfl rfl rfl ?_)
  refine z_aload_n 1 dX6_bringOut_42 rfl (z_iload_n 4 dX6_bringOut_43 rfl ?_)
  refine z_callS (kc' := 0) (ks' := 0) (v := (some (.int (f_X6_workAt a2)))) (S1 := S) (w1 := r7.2) (st := [.ref (zr S (zr S a0 0) (zix (f_X7_levelOf a2)))]) [.int a2] (m_X6_workAt hW r7.2 a2) zy_X6_workAt gw355 gw354 (Nat.le_of_ble_eq_true rfl) (Nat.le_of_ble_eq_true rfl) (Nat.le_of_ble_eq_true rfl) (Nat.le_of_ble_eq_true rfl) (zal hW) rfl dX6_bringOut_44 (z_at 47 _ [.int (f_X6_workAt a2), .ref (zr S (zr S a0 0) (zix (f_X7_levelOf a2)))] rfl rfl rfl ?_)
  refine z_bind (fun r9 hb10 => ?_)
  refine z_callV (kc' := 0) (ks' := 0) (v := none) (S1 := S) (w1 := r9.2) (st := []) [.int (f_X6_workAt a2)] (m_X4_work hW r7.2 (zr S (zr S a0 0) (zix (f_X7_levelOf a2))) (zW_el5 hW (zW_arr hW h0 0 5 rfl) c1).2 (f_X6_workAt a2) r9 hb10) zc4 (zW_el5 hW (zW_arr hW h0 0 5 rfl) c1).2 zy_X4_work gw359 gw360 gw358 (Nat.le_of_ble_eq_true rfl) (Nat.le_of_ble_eq_true rfl) (Nat.le_of_ble_eq_true rfl) (Nat.le_of_ble_eq_true rfl) (zal hW) rfl dX6_bringOut_47 (z_at 50 _ [] rfl rfl rfl ?_)
  refine z_aload_n 1 dX6_bringOut_50 rfl (z_iconst dX6_bringOut_51 zi_0 ?_)
  refine z_bind (fun r11 hb12 => ?_)
  refine z_callV (kc' := 0) (ks' := 0) (v := none) (S1 := S) (w1 := r11.2) (st := []) [.int (0 : Int32)] (m_X4_goTo hW r9.2 (zr S (zr S a0 0) (zix (f_X7_levelOf a2))) (zW_el5 hW (zW_arr hW h0 0 5 rfl) c1).2 (0 : Int32) r11 hb12) zc4 (zW_el5 hW (zW_arr hW h0 0 5 rfl) c1).2 zy_X4_goTo gw350 gw351 gw349 (Nat.le_of_ble_eq_true rfl) (Nat.le_of_ble_eq_true rfl) (Nat.le_of_ble_eq_true rfl) (Nat.le_of_ble_eq_true rfl) (zal hW) rfl dX6_bringOut_52 (z_at 55 _ [] rfl rfl rfl ?_)
  refine z_aload_n 2 dX6_bringOut_55 rfl (z_getR zc6 1 (by decide) rfl gw87 h0 (zW_some hW h0 1 rfl) dX6_bringOut_56 (z_iload_n 4 dX6_bringOut_59 rfl ?_))
  refine z_callSN (kc' := 0) (ks' := 0) (v := (some (.int (f_X7_levelOf a2)))) (S1 := S) (w1 := r11.2) (st := [.ref (zr S a0 1)]) [.int a2] (m_X7_levelOf hW r11.2 a2) zy_X7_levelOf gw318 zn_m7 (Nat.le_of_ble_eq_true rfl) (Nat.le_of_ble_eq_true rfl) (Nat.le_of_ble_eq_true rfl) (Nat.le_of_ble_eq_true rfl) (zal hW) rfl dX6_bringOut_60 (z_at 63 _ [.int (f_X7_levelOf a2), .ref (zr S a0 1)] rfl rfl rfl ?_)
  refine z_bind (fun r13 hb14 => ?_)
  refine z_callV (kc' := 0) (ks' := 0) (v := none) (S1 := S) (w1 := r13.2) (st := []) [.int (f_X7_levelOf a2)] (m_X4_goTo hW r11.2 (zr S a0 1) (zW_obj hW h0 1 4 rfl) (f_X7_levelOf a2) r13 hb14) zc4 (zW_obj hW h0 1 4 rfl) zy_X4_goTo gw350 gw351 gw349 (Nat.le_of_ble_eq_true rfl) (Nat.le_of_ble_eq_true rfl) (Nat.le_of_ble_eq_true rfl) (Nat.le_of_ble_eq_true rfl) (zal hW) rfl dX6_bringOut_63 (z_at 66 _ [] rfl rfl rfl ?_)
  refine z_aload_n 1 dX6_bringOut_66 rfl (z_aload_n 2 dX6_bringOut_67 rfl (z_getR zc6 1 (by decide) rfl gw87 h0 (zW_some hW h0 1 rfl) dX6_bringOut_68 ?_))
  refine z_bind (fun r15 hb16 => ?_)
  refine z_callV (kc' := 0) (ks' := 0) (v := none) (S1 := S) (w1 := r15.2) (st := []) [.ref (zr S a0 1)] (m_X4_handOver hW r13.2 (zr S (zr S a0 0) (zix (f_X7_levelOf a2))) (zW_el5 hW (zW_arr hW h0 0 5 rfl) c1).2 (zr S a0 1) (zW_obj hW h0 1 4 rfl) r15 hb16) zc4 (zW_el5 hW (zW_arr hW h0 0 5 rfl) c1).2 zy_X4_handOver gw379 gw380 gw378 (Nat.le_of_ble_eq_true rfl) (Nat.le_of_ble_eq_true rfl) (Nat.le_of_ble_eq_true rfl) (Nat.le_of_ble_eq_true rfl) (zal hW) rfl dX6_bringOut_71 (z_at 74 _ [] rfl rfl rfl ?_)
  refine z_aload_n 2 dX6_bringOut_74 rfl (z_getR zc6 1 (by decide) rfl gw87 h0 (zW_some hW h0 1 rfl) dX6_bringOut_75 (z_iconst dX6_bringOut_78 zi_0 ?_))
  refine z_bind (fun r17 hb18 => ?_)
  refine z_callV (kc' := 0) (ks' := 0) (v := none) (S1 := S) (w1 := r17.2) (st := []) [.int (0 : Int32)] (m_X4_goTo hW r15.2 (zr S a0 1) (zW_obj hW h0 1 4 rfl) (0 : Int32) r17 hb18) zc4 (zW_obj hW h0 1 4 rfl) zy_X4_goTo gw350 gw351 gw349 (Nat.le_of_ble_eq_true rfl) (Nat.le_of_ble_eq_true rfl) (Nat.le_of_ble_eq_true rfl) (Nat.le_of_ble_eq_true rfl) (zal hW) rfl dX6_bringOut_79 (z_at 82 _ [] rfl rfl rfl ?_)
  refine z_aload_n 2 dX6_bringOut_82 rfl (z_getR zc6 1 (by decide) rfl gw87 h0 (zW_some hW h0 1 rfl) dX6_bringOut_83 (z_iconst dX6_bringOut_86 zi_2 ?_))
  refine z_bind (fun r19 hb20 => ?_)
  refine z_callV (kc' := 0) (ks' := 0) (v := none) (S1 := S) (w1 := r19.2) (st := []) [.int (2 : Int32)] (m_X4_work hW r17.2 (zr S a0 1) (zW_obj hW h0 1 4 rfl) (2 : Int32) r19 hb20) zc4 (zW_obj hW h0 1 4 rfl) zy_X4_work gw359 gw360 gw358 (Nat.le_of_ble_eq_true rfl) (Nat.le_of_ble_eq_true rfl) (Nat.le_of_ble_eq_true rfl) (Nat.le_of_ble_eq_true rfl) (zal hW) rfl dX6_bringOut_87 (z_at 90 _ [] rfl rfl rfl ?_)
  refine z_aload_n 2 dX6_bringOut_90 rfl (z_getR zc6 1 (by decide) rfl gw87 h0 (zW_some hW h0 1 rfl) dX6_bringOut_91 ?_)
  refine z_bind (fun r21 hb22 => ?_)
  refine z_callV (kc' := 0) (ks' := 0) (v := (some (.int r21.1))) (S1 := S) (w1 := r21.2) (st := []) [] (m_X4_finish hW r19.2 (zr S a0 1) (zW_obj hW h0 1 4 rfl) r21 hb22) zc4 (zW_obj hW h0 1 4 rfl) zy_X4_finish gw363 gw364 gw362 (Nat.le_of_ble_eq_true rfl) (Nat.le_of_ble_eq_true rfl) (Nat.le_of_ble_eq_true rfl) (Nat.le_of_ble_eq_true rfl) (zal hW) rfl dX6_bringOut_94 (z_at 97 _ [.int r21.1] rfl rfl rfl ?_)
  refine z_aload_n 1 dX6_bringOut_97 rfl ?_
  refine z_bind (fun r23 hb24 => ?_)
  refine z_callV (kc' := 0) (ks' := 0) (v := (some (.int r23.1))) (S1 := S) (w1 := r23.2) (st := [.int r21.1]) [] (m_X4_finish hW r21.2 (zr S (zr S a0 0) (zix (f_X7_levelOf a2))) (zW_el5 hW (zW_arr hW h0 0 5 rfl) c1).2 r23 hb24) zc4 (zW_el5 hW (zW_arr hW h0 0 5 rfl) c1).2 zy_X4_finish gw363 gw364 gw362 (Nat.le_of_ble_eq_true rfl) (Nat.le_of_ble_eq_true rfl) (Nat.le_of_ble_eq_true rfl) (Nat.le_of_ble_eq_true rfl) (zal hW) rfl dX6_bringOut_98 (z_at 101 _ [.int r23.1, .int r21.1] rfl rfl rfl ?_)
  refine z_max gw382 (Nat.le_of_ble_eq_true rfl) (Nat.le_of_ble_eq_true rfl) dX6_bringOut_101 ?_
  refine z_let (a := (zmax r21.1 r23.1)) (fun z25 => [(4, .int z6), (3, .ref (zr S (zr S a0 0) (zix (f_X7_levelOf a2)))), (0, .ref a0), (1, .int a1), (2, .int a2)]) (fun z25 => .int z25 :: []) (fun z25 => ?_)
  refine z_istore (lv' := [(5, .int z25), (4, .int z6), (3, .ref (zr S (zr S a0 0) (zix (f_X7_levelOf a2)))), (0, .ref a0), (1, .int a1), (2, .int a2)]) dX6_bringOut_104 (Nat.le_of_ble_eq_true rfl) rfl (z_aload_n 3 dX6_bringOut_106 rfl (z_getR zc6 2 (by decide) rfl gw88 h0 (zW_some hW h0 2 rfl) dX6_bringOut_107 (z_iload_n 4 dX6_bringOut_110 rfl (z_iload_n 5 dX6_bringOut_111 rfl (z_iconst dX6_bringOut_112 zi_m1 ?_)))))
  refine z_iload 1 dX6_bringOut_113 rfl (z_iload 0 dX6_bringOut_115 rfl ?_)
  refine z_bind (fun r26 hb27 => ?_)
  refine z_callV (kc' := 0) (ks' := 0) (v := none) (S1 := S) (w1 := r26.2) (st := []) [.int a1, .int a2, .int (-1 : Int32), .int z6, .int z25] (m_X3_add hW r23.2 (zr S a0 2) (zW_obj hW h0 2 3 rfl) a1 a2 (-1 : Int32) z6 z25 r26 hb27) zc3 (zW_obj hW h0 2 3 rfl) zy_X3_add gw367 gw368 gw366 (Nat.le_of_ble_eq_true rfl) (Nat.le_of_ble_eq_true rfl) (Nat.le_of_ble_eq_true rfl) (Nat.le_of_ble_eq_true rfl) (zal hW) rfl dX6_bringOut_117 (z_at 120 _ [] rfl rfl rfl ?_)
  exact z_vret zemW rfl dX6_bringOut_120

theorem m_X6_bringOut {E : ZE} {S : Zs} (hW : zWF S) (w : Zw) (a0 : Nat) (h0 : zObj S a0 6) (a1 : Int32) (a2 : Int32) : ∀ i, f_X6_bringOut S w a0 a1 a2 = some i → zMr E yX6_bringOut cX6_bringOut 6 none 7 0 0 [.ref a0, .int a1, .int a2] S w ((emW eU S) i) :=
  fun i hi => z_enter (by decide +kernel) (Nat.le_of_ble_eq_true rfl) (mw_X6_bringOut hW w a0 h0 a1 a2 i hi)
/-! ParkingRobot$Garage.takeOut (I)V : W, depth 8 -/
abbrev i_X1_takeOut : Zm := (yX1_takeOut.cls, cX1_takeOut, 3, none, [], yX1_takeOut.name)
def f_X1_takeOut (S : Zs) (w : Zw) (a0 : Nat) (a1 : Int32) : Option (Unit × Zw) :=
  if zin a1 (zlen S (zr S a0 4)) = true then zlet (w (zr S a0 4) (zix a1)) fun z2 => (f_X6_bringOut S w (zr S a0 7) a1 z2).bind fun r3 => if zin z2 (zlen S (zr S a0 1)) = true then zlet (zput r3.2 (zr S a0 1) (zix z2) (-1 : Int32)) fun w6 => if zin a1 (zlen S (zr S a0 4)) = true then zlet (zput w6 (zr S a0 4) (zix a1) (-1 : Int32)) fun w8 => if zin a1 (zlen S (zr S a0 5)) = true then if zin a1 (zlen S (zr S a0 5)) = true then zlet (zput w8 (zr S a0 5) (zix a1) ((w8 (zr S a0 5) (zix a1)) + (1 : Int32))) fun w11 => zlet (zput w11 a0 9 ((w11 a0 9) - (1 : Int32))) fun w12 => some ((), w12) else none else none else none else none else none
theorem mw_X1_takeOut {E : ZE} {S : Zs} (hW : zWF S) (w : Zw) (a0 : Nat) (h0 : zObj S a0 1) (a1 : Int32) : zOk (E, i_X1_takeOut, 8) 0 0 S w 0 [(0, .ref a0), (1, .int a1)] [] (emW eU S) (f_X1_takeOut S w a0 a1) := by
  unfold f_X1_takeOut
  refine z_aload_n 0 dX1_takeOut_0 rfl (z_getR zc1 4 (by decide) rfl gw105 h0 (zW_some hW h0 4 rfl) dX1_takeOut_1 (z_iload_n 1 dX1_takeOut_4 rfl ?_))
  refine z_chk (fun c1 => ?_)
  refine z_iald (zW_arr hW h0 4 0 rfl) c1 dX1_takeOut_5 ?_
  refine z_let (a := (w (zr S a0 4) (zix a1))) (fun z2 => [(0, .ref a0), (1, .int a1)]) (fun z2 => .int z2 :: []) (fun z2 => ?_)
  refine z_istore_n (lv' := [(2, .int z2), (0, .ref a0), (1, .int a1)]) dX1_takeOut_6 (Nat.le_of_ble_eq_true rfl) rfl (z_aload_n 1 dX1_takeOut_7 rfl (z_getR zc1 7 (by decide) rfl gw108 h0 (zW_some hW h0 7 rfl) dX1_takeOut_8 (z_iload_n 2 dX1_takeOut_11 rfl (z_iload_n 0 dX1_takeOut_12 rfl ?_))))
  refine z_bind (fun r3 hb4 => ?_)
  refine z_callV (kc' := 0) (ks' := 0) (v := none) (S1 := S) (w1 := r3.2) (st := []) [.int a1, .int z2] (m_X6_bringOut hW w (zr S a0 7) (zW_obj hW h0 7 6 rfl) a1 z2 r3 hb4) zc6 (zW_obj hW h0 7 6 rfl) zy_X6_bringOut gw606 gw607 gw605 (Nat.le_of_ble_eq_true rfl) (Nat.le_of_ble_eq_true rfl) (Nat.le_of_ble_eq_true rfl) (Nat.le_of_ble_eq_true rfl) (zal hW) rfl dX1_takeOut_13 (z_at 16 _ [] rfl rfl rfl ?_)
  refine z_aload_n 1 dX1_takeOut_16 rfl (z_getR zc1 1 (by decide) rfl gw102 h0 (zW_some hW h0 1 rfl) dX1_takeOut_17 (z_iload_n 0 dX1_takeOut_20 rfl (z_iconst dX1_takeOut_21 zi_m1 ?_)))
  refine z_chk (fun c5 => ?_)
  refine z_iast (zW_arr hW h0 1 0 rfl) c5 dX1_takeOut_22 (z_letw (fun w6 => ?_))
  refine z_aload_n 1 dX1_takeOut_23 rfl (z_getR zc1 4 (by decide) rfl gw105 h0 (zW_some hW h0 4 rfl) dX1_takeOut_24 (z_iload_n 2 dX1_takeOut_27 rfl (z_iconst dX1_takeOut_28 zi_m1 ?_)))
  refine z_chk (fun c7 => ?_)
  refine z_iast (zW_arr hW h0 4 0 rfl) c7 dX1_takeOut_29 (z_letw (fun w8 => ?_))
  refine z_aload_n 1 dX1_takeOut_30 rfl (z_getR zc1 5 (by decide) rfl gw106 h0 (zW_some hW h0 5 rfl) dX1_takeOut_31 (z_iload_n 2 dX1_takeOut_34 rfl (z_dup2_11 dX1_takeOut_35 rfl rfl ?_)))
  refine z_chk (fun c9 => ?_)
  refine z_iald (zW_arr hW h0 5 0 rfl) c9 dX1_takeOut_36 (z_iconst dX1_takeOut_37 zi_1 (z_iadd dX1_takeOut_38 ?_))
  refine z_chk (fun c10 => ?_)
  refine z_iast (zW_arr hW h0 5 0 rfl) c10 dX1_takeOut_39 (z_letw (fun w11 => ?_))
  refine z_aload_n 1 dX1_takeOut_40 rfl (z_dup dX1_takeOut_41 rfl (z_getI zc1 9 (by decide) rfl gw110 h0 dX1_takeOut_42 (z_iconst dX1_takeOut_45 zi_1 (z_isub dX1_takeOut_46 ?_))))
  refine z_putI zc1 9 (by decide) (Or.inl rfl) rfl gw110 h0 dX1_takeOut_47 (z_letw (fun w12 => ?_))
  exact z_vret zemW rfl dX1_takeOut_50

theorem m_X1_takeOut {E : ZE} {S : Zs} (hW : zWF S) (w : Zw) (a0 : Nat) (h0 : zObj S a0 1) (a1 : Int32) : ∀ i, f_X1_takeOut S w a0 a1 = some i → zMr E yX1_takeOut cX1_takeOut 3 none 8 0 0 [.ref a0, .int a1] S w ((emW eU S) i) :=
  fun i hi => z_enter (by decide +kernel) (Nat.le_of_ble_eq_true rfl) (mw_X1_takeOut hW w a0 h0 a1 i hi)
/-! ParkingRobot$Garage.fetch (I)I : W, depth 9 -/
abbrev i_X1_fetch : Zm := (yX1_fetch.cls, cX1_fetch, 4, (some .int), [], yX1_fetch.name)
def f_X1_fetch_j40 (S : Zs) (w : Zw) (x0 : Nat) (x1 : Int32) (x2 : Int32) : Option (Int32 × Zw) :=
  (f_X1_takeOut S w x0 x1).bind fun r7 => if x2 = (-1 : Int32) then some ((1 : Int32), r7.2) else some ((2 : Int32), r7.2)
theorem m_X1_fetch_j40 {E : ZE} {S : Zs} (hW : zWF S) (w : Zw) (x0 : Nat) (hx0 : zObj S x0 1) (x1 : Int32) (x2 : Int32) : zOk (E, i_X1_fetch, 9) 0 0 S w 40 [(0, .ref x0), (1, .int x1), (2, .int x2)] [] (emW eI S) (f_X1_fetch_j40 S w x0 x1 x2) := by
  unfold f_X1_fetch_j40
  refine z_aload_n 0 dX1_fetch_40 rfl (z_iload_n 1 dX1_fetch_41 rfl ?_)
  refine z_bind (fun r7 hb8 => ?_)
  refine z_callV (kc' := 0) (ks' := 0) (v := none) (S1 := S) (w1 := r7.2) (st := []) [.int x1] (m_X1_takeOut hW w x0 hx0 x1 r7 hb8) zc1 hx0 zy_X1_takeOut gw603 gp7 gw601 (Nat.le_of_ble_eq_true rfl) (Nat.le_of_ble_eq_true rfl) (Nat.le_of_ble_eq_true rfl) (Nat.le_of_ble_eq_true rfl) (zal hW) rfl dX1_fetch_42 (z_at 45 _ [] rfl rfl rfl ?_)
  refine z_iload_n 2 dX1_fetch_45 rfl (z_iconst dX1_fetch_46 zi_m1 ?_)
  refine z_icmp_ne 54 dX1_fetch_47 rfl (fun q9 => ?_) (fun q9 => ?_)
  · refine z_iconst dX1_fetch_54 zi_2 ?_
    exact z_iret zemW rfl dX1_fetch_55
  · refine z_iconst dX1_fetch_50 zi_1 (z_goto 55 dX1_fetch_51 rfl ?_)
    exact z_iret zemW rfl dX1_fetch_55

def f_X1_fetch (S : Zs) (w : Zw) (a0 : Nat) (a1 : Int32) : Option (Int32 × Zw) :=
  (f_X1_isStored S w a0 a1).bind fun v1 => if v1 = 0 then some ((0 : Int32), w) else (f_X1_blockerOf S w a0 a1).bind fun v4 => if v4 = (-1 : Int32) then f_X1_fetch_j40 S w a0 a1 v4  else (f_X1_bayToFlee S w a0 v4).bind fun v10 => if v10 = (-1 : Int32) then some ((0 : Int32), w) else (f_X1_moveCar S w a0 v4 v10).bind fun r13 => f_X1_fetch_j40 S r13.2 a0 a1 v4 
theorem mw_X1_fetch {E : ZE} {S : Zs} (hW : zWF S) (w : Zw) (a0 : Nat) (h0 : zObj S a0 1) (a1 : Int32) : zOk (E, i_X1_fetch, 9) 0 0 S w 0 [(0, .ref a0), (1, .int a1)] [] (emW eI S) (f_X1_fetch S w a0 a1) := by
  unfold f_X1_fetch
  refine z_aload_n 0 dX1_fetch_0 rfl (z_iload_n 1 dX1_fetch_1 rfl ?_)
  refine z_bind (fun v1 hb2 => ?_)
  refine z_callV (kc' := 0) (ks' := 0) (v := (some (.int v1))) (S1 := S) (w1 := w) (st := []) [.int a1] (m_X1_isStored hW w a0 h0 a1 v1 hb2) zc1 h0 zy_X1_isStored gw282 gw283 gw281 (Nat.le_of_ble_eq_true rfl) (Nat.le_of_ble_eq_true rfl) (Nat.le_of_ble_eq_true rfl) (Nat.le_of_ble_eq_true rfl) (zal hW) rfl dX1_fetch_2 (z_at 5 _ [.int v1] rfl rfl rfl ?_)
  refine z_if_ne 10 dX1_fetch_5 rfl (fun q3 => ?_) (fun q3 => ?_)
  · refine z_aload_n 0 dX1_fetch_10 rfl (z_iload_n 1 dX1_fetch_11 rfl ?_)
    refine z_bind (fun v4 hb5 => ?_)
    refine z_callV (kc' := 0) (ks' := 0) (v := (some (.int v4))) (S1 := S) (w1 := w) (st := []) [.int a1] (m_X1_blockerOf hW w a0 h0 a1 v4 hb5) zc1 h0 zy_X1_blockerOf gw278 gw279 gw277 (Nat.le_of_ble_eq_true rfl) (Nat.le_of_ble_eq_true rfl) (Nat.le_of_ble_eq_true rfl) (Nat.le_of_ble_eq_true rfl) (zal hW) rfl dX1_fetch_12 (z_at 15 _ [.int v4] rfl rfl rfl ?_)
    refine z_istore_n (lv' := [(2, .int v4), (0, .ref a0), (1, .int a1)]) dX1_fetch_15 (Nat.le_of_ble_eq_true rfl) rfl (z_iload_n 0 dX1_fetch_16 rfl (z_iconst dX1_fetch_17 zi_m1 ?_))
    refine z_icmp_eq 40 dX1_fetch_18 rfl (fun q6 => ?_) (fun q6 => ?_)
    · refine z_sub (lv' := [(0, .ref a0), (1, .int a1), (2, .int v4)]) [1, 2, 0] rfl ?_
      refine z_pc (pc' := 40) rfl ?_
      exact m_X1_fetch_j40 hW w a0 h0 a1 v4 
    · refine z_aload_n 1 dX1_fetch_21 rfl (z_iload_n 0 dX1_fetch_22 rfl ?_)
      refine z_bind (fun v10 hb11 => ?_)
      refine z_callV (kc' := 0) (ks' := 0) (v := (some (.int v10))) (S1 := S) (w1 := w) (st := []) [.int v4] (m_X1_bayToFlee hW w a0 h0 v4 v10 hb11) zc1 h0 zy_X1_bayToFlee gw301 gw302 gw300 (Nat.le_of_ble_eq_true rfl) (Nat.le_of_ble_eq_true rfl) (Nat.le_of_ble_eq_true rfl) (Nat.le_of_ble_eq_true rfl) (zal hW) rfl dX1_fetch_23 (z_at 26 _ [.int v10] rfl rfl rfl ?_)
      refine z_istore_n (lv' := [(3, .int v10), (2, .int v4), (0, .ref a0), (1, .int a1)]) dX1_fetch_26 (Nat.le_of_ble_eq_true rfl) rfl (z_iload_n 0 dX1_fetch_27 rfl (z_iconst dX1_fetch_28 zi_m1 ?_))
      refine z_icmp_ne 34 dX1_fetch_29 rfl (fun q12 => ?_) (fun q12 => ?_)
      · refine z_aload_n 2 dX1_fetch_34 rfl (z_iload_n 1 dX1_fetch_35 rfl (z_iload_n 0 dX1_fetch_36 rfl ?_))
        refine z_bind (fun r13 hb14 => ?_)
        refine z_callV (kc' := 0) (ks' := 0) (v := none) (S1 := S) (w1 := r13.2) (st := []) [.int v4, .int v10] (m_X1_moveCar hW w a0 h0 v4 v10 r13 hb14) zc1 h0 zy_X1_moveCar gw333 gp2 gw331 (Nat.le_of_ble_eq_true rfl) (Nat.le_of_ble_eq_true rfl) (Nat.le_of_ble_eq_true rfl) (Nat.le_of_ble_eq_true rfl) (zal hW) rfl dX1_fetch_37 (z_at 40 _ [] rfl rfl rfl ?_)
        refine z_sub (lv' := [(0, .ref a0), (1, .int a1), (2, .int v4)]) [2, 3, 1] rfl ?_
        refine z_pc (pc' := 40) rfl ?_
        exact m_X1_fetch_j40 hW r13.2 a0 h0 a1 v4 
      · refine z_iconst dX1_fetch_32 zi_0 ?_
        exact z_iret zemW rfl dX1_fetch_33
  · refine z_iconst dX1_fetch_8 zi_0 ?_
    exact z_iret zemW rfl dX1_fetch_9

theorem m_X1_fetch {E : ZE} {S : Zs} (hW : zWF S) (w : Zw) (a0 : Nat) (h0 : zObj S a0 1) (a1 : Int32) : ∀ i, f_X1_fetch S w a0 a1 = some i → zMr E yX1_fetch cX1_fetch 4 ((some .int)) 9 0 0 [.ref a0, .int a1] S w ((emW eI S) i) :=
  fun i hi => z_enter (by decide +kernel) (Nat.le_of_ble_eq_true rfl) (mw_X1_fetch hW w a0 h0 a1 i hi)
/-! ParkingRobot$Orders.isTooLong (I)Z : P, depth 2 -/
abbrev i_X5_isTooLong : Zm := (yX5_isTooLong.cls, cX5_isTooLong, 2, (some .boolean), [], yX5_isTooLong.name)
def f_X5_isTooLong (S : Zs) (w : Zw) (a0 : Nat) (a1 : Int32) : Option (Int32) :=
  if (w a0 6) = 0 then some (0 : Int32) else (f_X5_movesAt S w a0 a1).bind fun v2 => if ((v2 + (w a0 4)) - a1) ≤ (w a0 6) then some (0 : Int32) else some (1 : Int32)
theorem mw_X5_isTooLong {E : ZE} {S : Zs} (hW : zWF S) (w : Zw) (a0 : Nat) (h0 : zObj S a0 5) (a1 : Int32) : zOk (E, i_X5_isTooLong, 2) 0 0 S w 0 [(0, .ref a0), (1, .int a1)] [] (emP eI S w) (f_X5_isTooLong S w a0 a1) := by
  unfold f_X5_isTooLong
  refine z_aload_n 0 dX5_isTooLong_0 rfl (z_getI zc5 6 (by decide) rfl gw168 h0 dX5_isTooLong_1 ?_)
  refine z_if_eq 30 dX5_isTooLong_4 rfl (fun q1 => ?_) (fun q1 => ?_)
  · refine z_iconst dX5_isTooLong_30 zi_0 ?_
    exact z_zret zemP rfl rfl dX5_isTooLong_31
  · refine z_aload_n 0 dX5_isTooLong_7 rfl (z_iload_n 1 dX5_isTooLong_8 rfl ?_)
    refine z_bind (fun v2 hb3 => ?_)
    refine z_callV (kc' := 0) (ks' := 0) (v := (some (.int v2))) (S1 := S) (w1 := w) (st := []) [.int a1] (m_X5_movesAt hW w a0 h0 a1 v2 hb3) zc5 h0 zy_X5_movesAt gw791 gp13 gw789 (Nat.le_of_ble_eq_true rfl) (Nat.le_of_ble_eq_true rfl) (Nat.le_of_ble_eq_true rfl) (Nat.le_of_ble_eq_true rfl) (zal hW) rfl dX5_isTooLong_9 (z_at 12 _ [.int v2] rfl rfl rfl ?_)
    refine z_aload_n 0 dX5_isTooLong_12 rfl (z_getI zc5 4 (by decide) rfl gw166 h0 dX5_isTooLong_13 (z_iadd dX5_isTooLong_16 (z_iload_n 1 dX5_isTooLong_17 rfl (z_isub dX5_isTooLong_18 (z_aload_n 0 dX5_isTooLong_19 rfl ?_)))))
    refine z_getI zc5 6 (by decide) rfl gw168 h0 dX5_isTooLong_20 ?_
    refine z_icmp_le 30 dX5_isTooLong_23 rfl (fun q4 => ?_) (fun q4 => ?_)
    · refine z_iconst dX5_isTooLong_30 zi_0 ?_
      exact z_zret zemP rfl rfl dX5_isTooLong_31
    · refine z_iconst dX5_isTooLong_26 zi_1 (z_goto 31 dX5_isTooLong_27 rfl ?_)
      exact z_zret zemP rfl rfl dX5_isTooLong_31

theorem m_X5_isTooLong {E : ZE} {S : Zs} (hW : zWF S) (w : Zw) (a0 : Nat) (h0 : zObj S a0 5) (a1 : Int32) : ∀ i, f_X5_isTooLong S w a0 a1 = some i → zMr E yX5_isTooLong cX5_isTooLong 2 ((some .boolean)) 2 0 0 [.ref a0, .int a1] S w ((emP eI S w) i) :=
  fun i hi => z_enter (by decide +kernel) (Nat.le_of_ble_eq_true rfl) (mw_X5_isTooLong hW w a0 h0 a1 i hi)
/-! ParkingRobot.checkPossible (Z)V : X, depth 6 -/
abbrev i_X7_checkPossible : Zm := (yX7_checkPossible.cls, cX7_checkPossible, 2, none, [], yX7_checkPossible.name)
def f_X7_checkPossible (w : Zw) (a0 : Nat) (a1 : Int32) : Option ((Unit ⊕ String) × Zw) :=
  if a1 = 0 then some (.inr "java/util/NoSuchElementException", w) else some (.inl (), w)
theorem mw_X7_checkPossible {E : ZE} {S : Zs} (hW : zWF S) (w : Zw) (a0 : Nat) (h0 : zObj S a0 7) (a1 : Int32) : zOk (E, i_X7_checkPossible, 6) 1 6 S w 0 [(0, .ref a0), (1, .int a1)] [] (emX eU S) (f_X7_checkPossible w a0 a1) := by
  unfold f_X7_checkPossible
  refine z_iload_n 1 dX7_checkPossible_0 rfl ?_
  refine z_if_ne 15 dX7_checkPossible_1 rfl (fun q1 => ?_) (fun q1 => ?_)
  · exact z_vret zemX rfl dX7_checkPossible_15
  · exact z_throwWN zx_NSE gw715 zt_RX7_376 (Nat.le_of_ble_eq_true rfl) (Nat.le_of_ble_eq_true rfl) (Nat.le_of_ble_eq_true rfl) rfl (Nat.le_of_ble_eq_true rfl) zemXr dX7_checkPossible_4 dX7_checkPossible_7 dX7_checkPossible_8 dX7_checkPossible_11 dX7_checkPossible_14

theorem m_X7_checkPossible {E : ZE} {S : Zs} (hW : zWF S) (w : Zw) (a0 : Nat) (h0 : zObj S a0 7) (a1 : Int32) : ∀ i, f_X7_checkPossible w a0 a1 = some i → zMx E yX7_checkPossible cX7_checkPossible 2 none 6 1 6 [.ref a0, .int a1] S w ((emX eU S) i) :=
  fun i hi => z_enterX (by decide +kernel) (Nat.le_of_ble_eq_true rfl) (mw_X7_checkPossible hW w a0 h0 a1 i hi)
/-! ParkingRobot$Orders.carOfBest (I)I : P, depth 0 -/
abbrev i_X5_carOfBest : Zm := (yX5_carOfBest.cls, cX5_carOfBest, 2, (some .int), [], yX5_carOfBest.name)
def f_X5_carOfBest (S : Zs) (w : Zw) (a0 : Nat) (a1 : Int32) : Option (Int32) :=
  if zin a1 (zlen S (zr S a0 3)) = true then some (w (zr S a0 3) (zix a1)) else none
theorem mw_X5_carOfBest {E : ZE} {S : Zs} (hW : zWF S) (w : Zw) (a0 : Nat) (h0 : zObj S a0 5) (a1 : Int32) : zOk (E, i_X5_carOfBest, 0) 0 0 S w 0 [(0, .ref a0), (1, .int a1)] [] (emP eI S w) (f_X5_carOfBest S w a0 a1) := by
  unfold f_X5_carOfBest
  refine z_aload_n 0 dX5_carOfBest_0 rfl (z_getR zc5 3 (by decide) rfl gw165 h0 (zW_some hW h0 3 rfl) dX5_carOfBest_1 (z_iload_n 1 dX5_carOfBest_4 rfl ?_))
  refine z_chk (fun c1 => ?_)
  refine z_iald (zW_arr hW h0 3 0 rfl) c1 dX5_carOfBest_5 ?_
  exact z_iret zemP rfl dX5_carOfBest_6

theorem m_X5_carOfBest {E : ZE} {S : Zs} (hW : zWF S) (w : Zw) (a0 : Nat) (h0 : zObj S a0 5) (a1 : Int32) : ∀ i, f_X5_carOfBest S w a0 a1 = some i → zMr E yX5_carOfBest cX5_carOfBest 2 ((some .int)) 0 0 0 [.ref a0, .int a1] S w ((emP eI S w) i) :=
  fun i hi => z_enter (by decide +kernel) (Nat.le_of_ble_eq_true rfl) (mw_X5_carOfBest hW w a0 h0 a1 i hi)
/-! ParkingRobot$Orders.endOfBest ()I : T, depth 0 -/
abbrev i_X5_endOfBest : Zm := (yX5_endOfBest.cls, cX5_endOfBest, 1, (some .int), [], yX5_endOfBest.name)
def f_X5_endOfBest (S : Zs) (w : Zw) (a0 : Nat) : Int32 :=
  (w a0 7)
theorem mw_X5_endOfBest {E : ZE} {S : Zs} (hW : zWF S) (w : Zw) (a0 : Nat) (h0 : zObj S a0 5) : zOk (E, i_X5_endOfBest, 0) 0 0 S w 0 [(0, .ref a0)] [] (emP eI S w) (some (f_X5_endOfBest S w a0)) := by
  unfold f_X5_endOfBest
  refine z_aload_n 0 dX5_endOfBest_0 rfl (z_getI zc5 7 (by decide) rfl gw169 h0 dX5_endOfBest_1 ?_)
  exact z_iret zemP rfl dX5_endOfBest_4

theorem m_X5_endOfBest {E : ZE} {S : Zs} (hW : zWF S) (w : Zw) (a0 : Nat) (h0 : zObj S a0 5) : zMr E yX5_endOfBest cX5_endOfBest 1 ((some .int)) 0 0 0 [.ref a0] S w (.inl (eI (f_X5_endOfBest S w a0)), S, w) :=
  z_enter (by decide +kernel) (Nat.le_of_ble_eq_true rfl) (mw_X5_endOfBest hW w a0 h0 _ rfl)
/-! ParkingRobot$Orders.movesOfBest ()I : T, depth 0 -/
abbrev i_X5_movesOfBest : Zm := (yX5_movesOfBest.cls, cX5_movesOfBest, 1, (some .int), [], yX5_movesOfBest.name)
def f_X5_movesOfBest (S : Zs) (w : Zw) (a0 : Nat) : Int32 :=
  (w a0 6)
theorem mw_X5_movesOfBest {E : ZE} {S : Zs} (hW : zWF S) (w : Zw) (a0 : Nat) (h0 : zObj S a0 5) : zOk (E, i_X5_movesOfBest, 0) 0 0 S w 0 [(0, .ref a0)] [] (emP eI S w) (some (f_X5_movesOfBest S w a0)) := by
  unfold f_X5_movesOfBest
  refine z_aload_n 0 dX5_movesOfBest_0 rfl (z_getI zc5 6 (by decide) rfl gw168 h0 dX5_movesOfBest_1 ?_)
  exact z_iret zemP rfl dX5_movesOfBest_4

theorem m_X5_movesOfBest {E : ZE} {S : Zs} (hW : zWF S) (w : Zw) (a0 : Nat) (h0 : zObj S a0 5) : zMr E yX5_movesOfBest cX5_movesOfBest 1 ((some .int)) 0 0 0 [.ref a0] S w (.inl (eI (f_X5_movesOfBest S w a0)), S, w) :=
  z_enter (by decide +kernel) (Nat.le_of_ble_eq_true rfl) (mw_X5_movesOfBest hW w a0 h0 _ rfl)
/-! ParkingRobot.checkStored (I)V : X, depth 6 -/
abbrev i_X7_checkStored : Zm := (yX7_checkStored.cls, cX7_checkStored, 2, none, [], yX7_checkStored.name)
def f_X7_checkStored (S : Zs) (w : Zw) (a0 : Nat) (a1 : Int32) : Option ((Unit ⊕ String) × Zw) :=
  (f_X1_isStored S w (zr S a0 0) a1).bind fun v1 => if v1 = 0 then some (.inr "java/lang/IndexOutOfBoundsException", w) else some (.inl (), w)
theorem mw_X7_checkStored {E : ZE} {S : Zs} (hW : zWF S) (w : Zw) (a0 : Nat) (h0 : zObj S a0 7) (a1 : Int32) : zOk (E, i_X7_checkStored, 6) 1 6 S w 0 [(0, .ref a0), (1, .int a1)] [] (emX eU S) (f_X7_checkStored S w a0 a1) := by
  unfold f_X7_checkStored
  refine z_aload_n 0 dX7_checkStored_0 rfl (z_getR zc7 0 (by decide) rfl gw216 h0 (zW_some hW h0 0 rfl) dX7_checkStored_1 (z_iload_n 1 dX7_checkStored_4 rfl ?_))
  refine z_bind (fun v1 hb2 => ?_)
  refine z_callV (kc' := 1) (ks' := 6) (v := (some (.int v1))) (S1 := S) (w1 := w) (st := []) [.int a1] (m_X1_isStored hW w (zr S a0 0) (zW_obj hW h0 0 1 rfl) a1 v1 hb2) zc1 (zW_obj hW h0 0 1 rfl) zy_X1_isStored gw282 gw283 gw579 (Nat.le_of_ble_eq_true rfl) (Nat.le_of_ble_eq_true rfl) (Nat.le_of_ble_eq_true rfl) (Nat.le_of_ble_eq_true rfl) (zal hW) rfl dX7_checkStored_5 (z_at 8 _ [.int v1] rfl rfl rfl ?_)
  refine z_if_ne 22 dX7_checkStored_8 rfl (fun q3 => ?_) (fun q3 => ?_)
  · exact z_vret zemX rfl dX7_checkStored_22
  · exact z_throwW zx_IOE gw580 zt_RX7_364 (Nat.le_of_ble_eq_true rfl) (Nat.le_of_ble_eq_true rfl) (Nat.le_of_ble_eq_true rfl) rfl (Nat.le_of_ble_eq_true rfl) zemXr dX7_checkStored_11 dX7_checkStored_14 dX7_checkStored_15 dX7_checkStored_18 dX7_checkStored_21

theorem m_X7_checkStored {E : ZE} {S : Zs} (hW : zWF S) (w : Zw) (a0 : Nat) (h0 : zObj S a0 7) (a1 : Int32) : ∀ i, f_X7_checkStored S w a0 a1 = some i → zMx E yX7_checkStored cX7_checkStored 2 none 6 1 6 [.ref a0, .int a1] S w ((emX eU S) i) :=
  fun i hi => z_enterX (by decide +kernel) (Nat.le_of_ble_eq_true rfl) (mw_X7_checkStored hW w a0 h0 a1 i hi)
/-! ParkingRobot.isTime (I)Z : P, depth 0 -/
abbrev i_X7_isTime : Zm := (yX7_isTime.cls, cX7_isTime, 1, (some .boolean), [], yX7_isTime.name)
def f_X7_isTime (a0 : Int32) : Option (Int32) :=
  if a0 < 0 then some (0 : Int32) else if (9999 : Int32) < a0 then some (0 : Int32) else some (1 : Int32)
theorem mw_X7_isTime {E : ZE} {S : Zs} (hW : zWF S) (w : Zw) (a0 : Int32) : zOk (E, i_X7_isTime, 0) 0 0 S w 0 [(0, .int a0)] [] (emP eI S w) (f_X7_isTime a0) := by
  unfold f_X7_isTime
  refine z_iload_n 0 dX7_isTime_0 rfl ?_
  refine z_if_lt 15 dX7_isTime_1 rfl (fun q1 => ?_) (fun q1 => ?_)
  · refine z_iconst dX7_isTime_15 zi_0 ?_
    exact z_zret zemP rfl rfl dX7_isTime_16
  · refine z_iload_n 0 dX7_isTime_4 rfl (z_sipush dX7_isTime_5 zs_9999 ?_)
    refine z_icmp_gt 15 dX7_isTime_8 rfl (fun q2 => ?_) (fun q2 => ?_)
    · refine z_iconst dX7_isTime_15 zi_0 ?_
      exact z_zret zemP rfl rfl dX7_isTime_16
    · refine z_iconst dX7_isTime_11 zi_1 (z_goto 16 dX7_isTime_12 rfl ?_)
      exact z_zret zemP rfl rfl dX7_isTime_16

theorem m_X7_isTime {E : ZE} {S : Zs} (hW : zWF S) (w : Zw) (a0 : Int32) : ∀ i, f_X7_isTime a0 = some i → zMr E yX7_isTime cX7_isTime 1 ((some .boolean)) 0 0 0 [.int a0] S w ((emP eI S w) i) :=
  fun i hi => z_enter (by decide +kernel) (Nat.le_of_ble_eq_true rfl) (mw_X7_isTime hW w a0 i hi)
/-! ParkingRobot.checkTime (I)V : X, depth 6 -/
abbrev i_X7_checkTime : Zm := (yX7_checkTime.cls, cX7_checkTime, 2, none, [], yX7_checkTime.name)
def f_X7_checkTime (w : Zw) (a0 : Nat) (a1 : Int32) : Option ((Unit ⊕ String) × Zw) :=
  (f_X7_isTime a1).bind fun v1 => if v1 = 0 then some (.inr "java/lang/IllegalArgumentException", w) else some (.inl (), w)
theorem mw_X7_checkTime {E : ZE} {S : Zs} (hW : zWF S) (w : Zw) (a0 : Nat) (h0 : zObj S a0 7) (a1 : Int32) : zOk (E, i_X7_checkTime, 6) 1 6 S w 0 [(0, .ref a0), (1, .int a1)] [] (emX eU S) (f_X7_checkTime w a0 a1) := by
  unfold f_X7_checkTime
  refine z_iload_n 1 dX7_checkTime_0 rfl ?_
  refine z_bind (fun v1 hb2 => ?_)
  refine z_callS (kc' := 1) (ks' := 6) (v := (some (.int v1))) (S1 := S) (w1 := w) (st := []) [.int a1] (m_X7_isTime hW w a1 v1 hb2) zy_X7_isTime gw425 gw424 (Nat.le_of_ble_eq_true rfl) (Nat.le_of_ble_eq_true rfl) (Nat.le_of_ble_eq_true rfl) (Nat.le_of_ble_eq_true rfl) (zal hW) rfl dX7_checkTime_1 (z_at 4 _ [.int v1] rfl rfl rfl ?_)
  refine z_if_ne 18 dX7_checkTime_4 rfl (fun q3 => ?_) (fun q3 => ?_)
  · exact z_vret zemX rfl dX7_checkTime_18
  · exact z_throwW zx_IAE gw427 zt_RX7_362 (Nat.le_of_ble_eq_true rfl) (Nat.le_of_ble_eq_true rfl) (Nat.le_of_ble_eq_true rfl) rfl (Nat.le_of_ble_eq_true rfl) zemXr dX7_checkTime_7 dX7_checkTime_10 dX7_checkTime_11 dX7_checkTime_14 dX7_checkTime_17

theorem m_X7_checkTime {E : ZE} {S : Zs} (hW : zWF S) (w : Zw) (a0 : Nat) (h0 : zObj S a0 7) (a1 : Int32) : ∀ i, f_X7_checkTime w a0 a1 = some i → zMx E yX7_checkTime cX7_checkTime 2 none 6 1 6 [.ref a0, .int a1] S w ((emX eU S) i) :=
  fun i hi => z_enterX (by decide +kernel) (Nat.le_of_ble_eq_true rfl) (mw_X7_checkTime hW w a0 h0 a1 i hi)
/-! ParkingRobot$History.draft (LParkingRobot$Garage;)V : W, depth 9 -/
abbrev i_X2_draft : Zm := (yX2_draft.cls, cX2_draft, 2, none, [], yX2_draft.name)
def f_X2_draft (S : Zs) (w : Zw) (a0 : Nat) (a1 : Nat) : Option (Unit × Zw) :=
  if zin (w a0 1) (zlen S (zr S a0 0)) = true then (f_X1_copyFrom S w (zr S (zr S a0 0) (zix (w a0 1))) a1).bind fun r2 => some ((), r2.2) else none
theorem mw_X2_draft {E : ZE} {S : Zs} (hW : zWF S) (w : Zw) (a0 : Nat) (h0 : zObj S a0 2) (a1 : Nat) (h1 : zObj S a1 1) : zOk (E, i_X2_draft, 9) 0 0 S w 0 [(0, .ref a0), (1, .ref a1)] [] (emW eU S) (f_X2_draft S w a0 a1) := by
  unfold f_X2_draft
  refine z_aload_n 0 dX2_draft_0 rfl (z_getR zc2 0 (by decide) rfl gw144 h0 (zW_some hW h0 0 rfl) dX2_draft_1 (z_aload_n 0 dX2_draft_4 rfl (z_getI zc2 1 (by decide) rfl gw145 h0 dX2_draft_5 ?_)))
  refine z_chk (fun c1 => ?_)
  refine z_aald (Or.inr rfl) (zW_arr hW h0 0 6 rfl) c1 (zW_el6 hW (zW_arr hW h0 0 6 rfl) c1).1 dX2_draft_8 (z_aload_n 1 dX2_draft_9 rfl ?_)
  refine z_bind (fun r2 hb3 => ?_)
  refine z_callV (kc' := 0) (ks' := 0) (v := none) (S1 := S) (w1 := r2.2) (st := []) [.ref a1] (m_X1_copyFrom hW w (zr S (zr S a0 0) (zix (w a0 1))) (zW_el6 hW (zW_arr hW h0 0 6 rfl) c1).2 a1 h1 r2 hb3) zc1 (zW_el6 hW (zW_arr hW h0 0 6 rfl) c1).2 zy_X1_copyFrom gw250 gw251 gw249 (Nat.le_of_ble_eq_true rfl) (Nat.le_of_ble_eq_true rfl) (Nat.le_of_ble_eq_true rfl) (Nat.le_of_ble_eq_true rfl) (zal hW) rfl dX2_draft_10 (z_at 13 _ [] rfl rfl rfl ?_)
  exact z_vret zemW rfl dX2_draft_13

theorem m_X2_draft {E : ZE} {S : Zs} (hW : zWF S) (w : Zw) (a0 : Nat) (h0 : zObj S a0 2) (a1 : Nat) (h1 : zObj S a1 1) : ∀ i, f_X2_draft S w a0 a1 = some i → zMr E yX2_draft cX2_draft 2 none 9 0 0 [.ref a0, .ref a1] S w ((emW eU S) i) :=
  fun i hi => z_enter (by decide +kernel) (Nat.le_of_ble_eq_true rfl) (mw_X2_draft hW w a0 h0 a1 h1 i hi)
/-! ParkingRobot$Garage.changePickup (II)I : W, depth 0 -/
abbrev i_X1_changePickup : Zm := (yX1_changePickup.cls, cX1_changePickup, 4, (some .int), [], yX1_changePickup.name)
def f_X1_changePickup (S : Zs) (w : Zw) (a0 : Nat) (a1 : Int32) (a2 : Int32) : Option (Int32 × Zw) :=
  if zin a1 (zlen S (zr S a0 3)) = true then zlet (w (zr S a0 3) (zix a1)) fun z2 => if zin a1 (zlen S (zr S a0 3)) = true then zlet (zput w (zr S a0 3) (zix a1) a2) fun w4 => some (z2, w4) else none else none
theorem mw_X1_changePickup {E : ZE} {S : Zs} (hW : zWF S) (w : Zw) (a0 : Nat) (h0 : zObj S a0 1) (a1 : Int32) (a2 : Int32) : zOk (E, i_X1_changePickup, 0) 0 0 S w 0 [(0, .ref a0), (1, .int a1), (2, .int a2)] [] (emW eI S) (f_X1_changePickup S w a0 a1 a2) := by
  unfold f_X1_changePickup
  refine z_aload_n 0 dX1_changePickup_0 rfl (z_getR zc1 3 (by decide) rfl gw104 h0 (zW_some hW h0 3 rfl) dX1_changePickup_1 (z_iload_n 1 dX1_changePickup_4 rfl ?_))
  refine z_chk (fun c1 => ?_)
  refine z_iald (zW_arr hW h0 3 0 rfl) c1 dX1_changePickup_5 ?_
  refine z_let (a := (w (zr S a0 3) (zix a1))) (fun z2 => [(0, .ref a0), (1, .int a1), (2, .int a2)]) (fun z2 => .int z2 :: []) (fun z2 => ?_)
  refine z_istore_n (lv' := [(3, .int z2), (0, .ref a0), (1, .int a1), (2, .int a2)]) dX1_changePickup_6 (Nat.le_of_ble_eq_true rfl) rfl (z_aload_n 1 dX1_changePickup_7 rfl (z_getR zc1 3 (by decide) rfl gw104 h0 (zW_some hW h0 3 rfl) dX1_changePickup_8 (z_iload_n 2 dX1_changePickup_11 rfl (z_iload_n 3 dX1_changePickup_12 rfl ?_))))
  refine z_chk (fun c3 => ?_)
  refine z_iast (zW_arr hW h0 3 0 rfl) c3 dX1_changePickup_13 (z_letw (fun w4 => ?_))
  refine z_iload_n 0 dX1_changePickup_14 rfl ?_
  exact z_iret zemW rfl dX1_changePickup_15

theorem m_X1_changePickup {E : ZE} {S : Zs} (hW : zWF S) (w : Zw) (a0 : Nat) (h0 : zObj S a0 1) (a1 : Int32) (a2 : Int32) : ∀ i, f_X1_changePickup S w a0 a1 a2 = some i → zMr E yX1_changePickup cX1_changePickup 4 ((some .int)) 0 0 0 [.ref a0, .int a1, .int a2] S w ((emW eI S) i) :=
  fun i hi => z_enter (by decide +kernel) (Nat.le_of_ble_eq_true rfl) (mw_X1_changePickup hW w a0 h0 a1 a2 i hi)
/-! ParkingRobot$History.keepDraft ()V : W, depth 6 -/
abbrev i_X2_keepDraft : Zm := (yX2_keepDraft.cls, cX2_keepDraft, 1, none, [], yX2_keepDraft.name)
def f_X2_keepDraft (S : Zs) (w : Zw) (a0 : Nat) : Option (Unit × Zw) :=
  zlet (zput w a0 1 (zrem ((w a0 1) + (1 : Int32)) (7 : Int32))) fun w1 => zlet (zput w1 a0 2 (zmin ((w1 a0 2) + (1 : Int32)) (6 : Int32))) fun w2 => some ((), w2)
theorem mw_X2_keepDraft {E : ZE} {S : Zs} (hW : zWF S) (w : Zw) (a0 : Nat) (h0 : zObj S a0 2) : zOk (E, i_X2_keepDraft, 6) 0 0 S w 0 [(0, .ref a0)] [] (emW eU S) (f_X2_keepDraft S w a0) := by
  unfold f_X2_keepDraft
  refine z_aload_n 0 dX2_keepDraft_0 rfl (z_aload_n 0 dX2_keepDraft_1 rfl (z_getI zc2 1 (by decide) rfl gw145 h0 dX2_keepDraft_2 (z_iconst dX2_keepDraft_5 zi_1 (z_iadd dX2_keepDraft_6 (z_bipush dX2_keepDraft_7 zb_7 ?_)))))
  refine z_rem dX2_keepDraft_9 (by decide) ?_
  refine z_putI zc2 1 (by decide) (Or.inl rfl) rfl gw145 h0 dX2_keepDraft_10 (z_letw (fun w1 => ?_))
  refine z_aload_n 0 dX2_keepDraft_13 rfl (z_aload_n 0 dX2_keepDraft_14 rfl (z_getI zc2 2 (by decide) rfl gw146 h0 dX2_keepDraft_15 (z_iconst dX2_keepDraft_18 zi_1 (z_iadd dX2_keepDraft_19 (z_bipush dX2_keepDraft_20 zb_6 ?_)))))
  refine z_min gw387 (Nat.le_of_ble_eq_true rfl) (Nat.le_of_ble_eq_true rfl) dX2_keepDraft_22 ?_
  refine z_putI zc2 2 (by decide) (Or.inl rfl) rfl gw146 h0 dX2_keepDraft_25 (z_letw (fun w2 => ?_))
  exact z_vret zemW rfl dX2_keepDraft_28

theorem m_X2_keepDraft {E : ZE} {S : Zs} (hW : zWF S) (w : Zw) (a0 : Nat) (h0 : zObj S a0 2) : ∀ i, f_X2_keepDraft S w a0 = some i → zMr E yX2_keepDraft cX2_keepDraft 1 none 6 0 0 [.ref a0] S w ((emW eU S) i) :=
  fun i hi => z_enter (by decide +kernel) (Nat.le_of_ble_eq_true rfl) (mw_X2_keepDraft hW w a0 h0 i hi)
/-! ParkingRobot.book (II)I : X, depth 10 -/
abbrev i_X7_book : Zm := (yX7_book.cls, cX7_book, 4, (some .int), [], yX7_book.name)
def f_X7_book (S : Zs) (w : Zw) (a0 : Nat) (a1 : Int32) (a2 : Int32) : Option ((Int32 ⊕ String) × Zw) :=
  zbx (f_X7_checkStored S w a0 a1) (fun v1 w2 => zbx (f_X7_checkTime w2 a0 a2) (fun v5 w6 => (f_X2_draft S w6 (zr S a0 3) (zr S a0 0)).bind fun r9 => (f_X1_changePickup S r9.2 (zr S a0 0) a1 a2).bind fun r11 => (f_X2_keepDraft S r11.2 (zr S a0 3)).bind fun r13 => some (.inl r11.1, r13.2)) (fun e w => some (.inr e, w))) (fun e w => some (.inr e, w))
theorem mw_X7_book {E : ZE} {S : Zs} (hW : zWF S) (w : Zw) (a0 : Nat) (h0 : zObj S a0 7) (a1 : Int32) (a2 : Int32) : zOk (E, i_X7_book, 10) 2 12 S w 0 [(0, .ref a0), (1, .int a1), (2, .int a2)] [] (emX eI S) (f_X7_book S w a0 a1 a2) := by
  unfold f_X7_book
  refine z_aload_n 0 dX7_book_0 rfl (z_iload_n 1 dX7_book_1 rfl ?_)
  refine z_bindX (fun j9 hb3 => ?_)
  obtain ⟨v1 | e4, w2⟩ := j9
  case inr => exact z_callVX (kc' := 1) (ks' := 6) (r := (.inr e4, S, w2)) (st := []) [.int a1] (m_X7_checkStored hW w a0 h0 a1 _ hb3) zc7 h0 zy_X7_checkStored gw577 gp5 gw575 (Nat.le_of_ble_eq_true rfl) (Nat.le_of_ble_eq_true rfl) (Nat.le_of_ble_eq_true rfl) (Nat.le_of_ble_eq_true rfl) (zal hW) rfl dX7_book_2 rfl (fun _ q9 => nomatch q9) (fun _ _ i9 hi9 => by cases hi9; rfl)
  refine z_callVX (kc' := 1) (ks' := 6) (r := (.inl (eU v1), S, w2)) (st := []) [.int a1] (m_X7_checkStored hW w a0 h0 a1 _ hb3) zc7 h0 zy_X7_checkStored gw577 gp5 gw575 (Nat.le_of_ble_eq_true rfl) (Nat.le_of_ble_eq_true rfl) (Nat.le_of_ble_eq_true rfl) (Nat.le_of_ble_eq_true rfl) (zal hW) rfl dX7_book_2 rfl (fun v9 hv9 => ?_) (fun _ q9 => nomatch q9)
  cases hv9
  refine z_at 5 _ [] rfl rfl rfl ?_
  dsimp only [zbx]
  refine z_aload_n 0 dX7_book_5 rfl (z_iload_n 2 dX7_book_6 rfl ?_)
  refine z_bindX (fun j9 hb7 => ?_)
  obtain ⟨v5 | e8, w6⟩ := j9
  case inr => exact z_callVX (kc' := 0) (ks' := 0) (r := (.inr e8, S, w6)) (st := []) [.int a2] (m_X7_checkTime hW w2 a0 h0 a2 _ hb7) zc7 h0 zy_X7_checkTime gw624 gp8 gw622 (Nat.le_of_ble_eq_true rfl) (Nat.le_of_ble_eq_true rfl) (Nat.le_of_ble_eq_true rfl) (Nat.le_of_ble_eq_true rfl) (zal hW) rfl dX7_book_7 rfl (fun _ q9 => nomatch q9) (fun _ _ i9 hi9 => by cases hi9; rfl)
  refine z_callVX (kc' := 0) (ks' := 0) (r := (.inl (eU v5), S, w6)) (st := []) [.int a2] (m_X7_checkTime hW w2 a0 h0 a2 _ hb7) zc7 h0 zy_X7_checkTime gw624 gp8 gw622 (Nat.le_of_ble_eq_true rfl) (Nat.le_of_ble_eq_true rfl) (Nat.le_of_ble_eq_true rfl) (Nat.le_of_ble_eq_true rfl) (zal hW) rfl dX7_book_7 rfl (fun v9 hv9 => ?_) (fun _ q9 => nomatch q9)
  cases hv9
  refine z_at 10 _ [] rfl rfl rfl ?_
  dsimp only [zbx]
  refine z_aload_n 0 dX7_book_10 rfl (z_getR zc7 3 (by decide) rfl gw219 h0 (zW_some hW h0 3 rfl) dX7_book_11 (z_aload_n 0 dX7_book_14 rfl (z_getR zc7 0 (by decide) rfl gw216 h0 (zW_some hW h0 0 rfl) dX7_book_15 ?_)))
  refine z_bind (fun r9 hb10 => ?_)
  refine z_callV (kc' := 0) (ks' := 0) (v := none) (S1 := S) (w1 := r9.2) (st := []) [.ref (zr S a0 0)] (m_X2_draft hW w6 (zr S a0 3) (zW_obj hW h0 3 2 rfl) (zr S a0 0) (zW_obj hW h0 0 1 rfl) r9 hb10) zc2 (zW_obj hW h0 3 2 rfl) zy_X2_draft gw246 gw247 gw245 (Nat.le_of_ble_eq_true rfl) (Nat.le_of_ble_eq_true rfl) (Nat.le_of_ble_eq_true rfl) (Nat.le_of_ble_eq_true rfl) (zal hW) rfl dX7_book_18 (z_at 21 _ [] rfl rfl rfl ?_)
  refine z_aload_n 0 dX7_book_21 rfl (z_getR zc7 0 (by decide) rfl gw216 h0 (zW_some hW h0 0 rfl) dX7_book_22 (z_iload_n 1 dX7_book_25 rfl (z_iload_n 2 dX7_book_26 rfl ?_)))
  refine z_bind (fun r11 hb12 => ?_)
  refine z_callV (kc' := 0) (ks' := 0) (v := (some (.int r11.1))) (S1 := S) (w1 := r11.2) (st := []) [.int a1, .int a2] (m_X1_changePickup hW r9.2 (zr S a0 0) (zW_obj hW h0 0 1 rfl) a1 a2 r11 hb12) zc1 (zW_obj hW h0 0 1 rfl) zy_X1_changePickup gw628 gw629 gw627 (Nat.le_of_ble_eq_true rfl) (Nat.le_of_ble_eq_true rfl) (Nat.le_of_ble_eq_true rfl) (Nat.le_of_ble_eq_true rfl) (zal hW) rfl dX7_book_27 (z_at 30 _ [.int r11.1] rfl rfl rfl ?_)
  refine z_istore_n (lv' := [(3, .int r11.1), (0, .ref a0), (1, .int a1), (2, .int a2)]) dX7_book_30 (Nat.le_of_ble_eq_true rfl) rfl (z_aload_n 1 dX7_book_31 rfl (z_getR zc7 3 (by decide) rfl gw219 h0 (zW_some hW h0 3 rfl) dX7_book_32 ?_))
  refine z_bind (fun r13 hb14 => ?_)
  refine z_callV (kc' := 0) (ks' := 0) (v := none) (S1 := S) (w1 := r13.2) (st := []) [] (m_X2_keepDraft hW r11.2 (zr S a0 3) (zW_obj hW h0 3 2 rfl) r13 hb14) zc2 (zW_obj hW h0 3 2 rfl) zy_X2_keepDraft gw384 gw385 gw383 (Nat.le_of_ble_eq_true rfl) (Nat.le_of_ble_eq_true rfl) (Nat.le_of_ble_eq_true rfl) (Nat.le_of_ble_eq_true rfl) (zal hW) rfl dX7_book_35 (z_at 38 _ [] rfl rfl rfl ?_)
  refine z_iload_n 0 dX7_book_38 rfl ?_
  exact z_iret zemX rfl dX7_book_39

theorem m_X7_book {E : ZE} {S : Zs} (hW : zWF S) (w : Zw) (a0 : Nat) (h0 : zObj S a0 7) (a1 : Int32) (a2 : Int32) : ∀ i, f_X7_book S w a0 a1 a2 = some i → zMx E yX7_book cX7_book 4 ((some .int)) 10 2 12 [.ref a0, .int a1, .int a2] S w ((emX eI S) i) :=
  fun i hi => z_enterX (by decide +kernel) (Nat.le_of_ble_eq_true rfl) (mw_X7_book hW w a0 h0 a1 a2 i hi)
/-! ParkingRobot$Garage.sizeOf (I)I : P, depth 0 -/
abbrev i_X1_sizeOf : Zm := (yX1_sizeOf.cls, cX1_sizeOf, 2, (some .int), [], yX1_sizeOf.name)
def f_X1_sizeOf (S : Zs) (w : Zw) (a0 : Nat) (a1 : Int32) : Option (Int32) :=
  if zin a1 (zlen S (zr S a0 2)) = true then some (w (zr S a0 2) (zix a1)) else none
theorem mw_X1_sizeOf {E : ZE} {S : Zs} (hW : zWF S) (w : Zw) (a0 : Nat) (h0 : zObj S a0 1) (a1 : Int32) : zOk (E, i_X1_sizeOf, 0) 0 0 S w 0 [(0, .ref a0), (1, .int a1)] [] (emP eI S w) (f_X1_sizeOf S w a0 a1) := by
  unfold f_X1_sizeOf
  refine z_aload_n 0 dX1_sizeOf_0 rfl (z_getR zc1 2 (by decide) rfl gw103 h0 (zW_some hW h0 2 rfl) dX1_sizeOf_1 (z_iload_n 1 dX1_sizeOf_4 rfl ?_))
  refine z_chk (fun c1 => ?_)
  refine z_iald (zW_arr hW h0 2 0 rfl) c1 dX1_sizeOf_5 ?_
  exact z_iret zemP rfl dX1_sizeOf_6

theorem m_X1_sizeOf {E : ZE} {S : Zs} (hW : zWF S) (w : Zw) (a0 : Nat) (h0 : zObj S a0 1) (a1 : Int32) : ∀ i, f_X1_sizeOf S w a0 a1 = some i → zMr E yX1_sizeOf cX1_sizeOf 2 ((some .int)) 0 0 0 [.ref a0, .int a1] S w ((emP eI S w) i) :=
  fun i hi => z_enter (by decide +kernel) (Nat.le_of_ble_eq_true rfl) (mw_X1_sizeOf hW w a0 h0 a1 i hi)
/-! ParkingRobot$Garage.pickupOf (I)I : P, depth 0 -/
abbrev i_X1_pickupOf : Zm := (yX1_pickupOf.cls, cX1_pickupOf, 2, (some .int), [], yX1_pickupOf.name)
def f_X1_pickupOf (S : Zs) (w : Zw) (a0 : Nat) (a1 : Int32) : Option (Int32) :=
  if zin a1 (zlen S (zr S a0 3)) = true then some (w (zr S a0 3) (zix a1)) else none
theorem mw_X1_pickupOf {E : ZE} {S : Zs} (hW : zWF S) (w : Zw) (a0 : Nat) (h0 : zObj S a0 1) (a1 : Int32) : zOk (E, i_X1_pickupOf, 0) 0 0 S w 0 [(0, .ref a0), (1, .int a1)] [] (emP eI S w) (f_X1_pickupOf S w a0 a1) := by
  unfold f_X1_pickupOf
  refine z_aload_n 0 dX1_pickupOf_0 rfl (z_getR zc1 3 (by decide) rfl gw104 h0 (zW_some hW h0 3 rfl) dX1_pickupOf_1 (z_iload_n 1 dX1_pickupOf_4 rfl ?_))
  refine z_chk (fun c1 => ?_)
  refine z_iald (zW_arr hW h0 3 0 rfl) c1 dX1_pickupOf_5 ?_
  exact z_iret zemP rfl dX1_pickupOf_6

theorem m_X1_pickupOf {E : ZE} {S : Zs} (hW : zWF S) (w : Zw) (a0 : Nat) (h0 : zObj S a0 1) (a1 : Int32) : ∀ i, f_X1_pickupOf S w a0 a1 = some i → zMr E yX1_pickupOf cX1_pickupOf 2 ((some .int)) 0 0 0 [.ref a0, .int a1] S w ((emP eI S w) i) :=
  fun i hi => z_enter (by decide +kernel) (Nat.le_of_ble_eq_true rfl) (mw_X1_pickupOf hW w a0 h0 a1 i hi)
/-! ParkingRobot$Garage.bayOf (I)I : P, depth 0 -/
abbrev i_X1_bayOf : Zm := (yX1_bayOf.cls, cX1_bayOf, 2, (some .int), [], yX1_bayOf.name)
def f_X1_bayOf (S : Zs) (w : Zw) (a0 : Nat) (a1 : Int32) : Option (Int32) :=
  if zin a1 (zlen S (zr S a0 4)) = true then some (w (zr S a0 4) (zix a1)) else none
theorem mw_X1_bayOf {E : ZE} {S : Zs} (hW : zWF S) (w : Zw) (a0 : Nat) (h0 : zObj S a0 1) (a1 : Int32) : zOk (E, i_X1_bayOf, 0) 0 0 S w 0 [(0, .ref a0), (1, .int a1)] [] (emP eI S w) (f_X1_bayOf S w a0 a1) := by
  unfold f_X1_bayOf
  refine z_aload_n 0 dX1_bayOf_0 rfl (z_getR zc1 4 (by decide) rfl gw105 h0 (zW_some hW h0 4 rfl) dX1_bayOf_1 (z_iload_n 1 dX1_bayOf_4 rfl ?_))
  refine z_chk (fun c1 => ?_)
  refine z_iald (zW_arr hW h0 4 0 rfl) c1 dX1_bayOf_5 ?_
  exact z_iret zemP rfl dX1_bayOf_6

theorem m_X1_bayOf {E : ZE} {S : Zs} (hW : zWF S) (w : Zw) (a0 : Nat) (h0 : zObj S a0 1) (a1 : Int32) : ∀ i, f_X1_bayOf S w a0 a1 = some i → zMr E yX1_bayOf cX1_bayOf 2 ((some .int)) 0 0 0 [.ref a0, .int a1] S w ((emP eI S w) i) :=
  fun i hi => z_enter (by decide +kernel) (Nat.le_of_ble_eq_true rfl) (mw_X1_bayOf hW w a0 h0 a1 i hi)
/-! ParkingRobot$Garage.jobsOf (I)I : P, depth 0 -/
abbrev i_X1_jobsOf : Zm := (yX1_jobsOf.cls, cX1_jobsOf, 2, (some .int), [], yX1_jobsOf.name)
def f_X1_jobsOf (S : Zs) (w : Zw) (a0 : Nat) (a1 : Int32) : Option (Int32) :=
  if zin a1 (zlen S (zr S a0 5)) = true then some (w (zr S a0 5) (zix a1)) else none
theorem mw_X1_jobsOf {E : ZE} {S : Zs} (hW : zWF S) (w : Zw) (a0 : Nat) (h0 : zObj S a0 1) (a1 : Int32) : zOk (E, i_X1_jobsOf, 0) 0 0 S w 0 [(0, .ref a0), (1, .int a1)] [] (emP eI S w) (f_X1_jobsOf S w a0 a1) := by
  unfold f_X1_jobsOf
  refine z_aload_n 0 dX1_jobsOf_0 rfl (z_getR zc1 5 (by decide) rfl gw106 h0 (zW_some hW h0 5 rfl) dX1_jobsOf_1 (z_iload_n 1 dX1_jobsOf_4 rfl ?_))
  refine z_chk (fun c1 => ?_)
  refine z_iald (zW_arr hW h0 5 0 rfl) c1 dX1_jobsOf_5 ?_
  exact z_iret zemP rfl dX1_jobsOf_6

theorem m_X1_jobsOf {E : ZE} {S : Zs} (hW : zWF S) (w : Zw) (a0 : Nat) (h0 : zObj S a0 1) (a1 : Int32) : ∀ i, f_X1_jobsOf S w a0 a1 = some i → zMr E yX1_jobsOf cX1_jobsOf 2 ((some .int)) 0 0 0 [.ref a0, .int a1] S w ((emP eI S w) i) :=
  fun i hi => z_enter (by decide +kernel) (Nat.le_of_ble_eq_true rfl) (mw_X1_jobsOf hW w a0 h0 a1 i hi)
/-! ParkingRobot.car (II)I : X, depth 7 -/
abbrev i_X7_car : Zm := (yX7_car.cls, cX7_car, 3, (some .int), [], yX7_car.name)
def f_X7_car (S : Zs) (w : Zw) (a0 : Nat) (a1 : Int32) (a2 : Int32) : Option ((Int32 ⊕ String) × Zw) :=
  zbx (f_X7_checkStored S w a0 a1) (fun v1 w2 => if a2 = (0 : Int32) then ((f_X1_sizeOf S w2 (zr S a0 0) a1).bind fun v6 => some (.inl v6, w2)) else if a2 = (1 : Int32) then ((f_X1_pickupOf S w2 (zr S a0 0) a1).bind fun v9 => some (.inl v9, w2)) else if a2 = (2 : Int32) then ((f_X1_bayOf S w2 (zr S a0 0) a1).bind fun v12 => some (.inl v12, w2)) else if a2 = (3 : Int32) then ((f_X1_blockerOf S w2 (zr S a0 0) a1).bind fun v15 => some (.inl v15, w2)) else if a2 = (4 : Int32) then ((f_X1_jobsOf S w2 (zr S a0 0) a1).bind fun v18 => some (.inl v18, w2)) else (some (.inr "java/lang/IllegalArgumentException", w2))) (fun e w => some (.inr e, w))
theorem mw_X7_car {E : ZE} {S : Zs} (hW : zWF S) (w : Zw) (a0 : Nat) (h0 : zObj S a0 7) (a1 : Int32) (a2 : Int32) : zOk (E, i_X7_car, 7) 2 12 S w 0 [(0, .ref a0), (1, .int a1), (2, .int a2)] [] (emX eI S) (f_X7_car S w a0 a1 a2) := by
  unfold f_X7_car
  refine z_aload_n 0 dX7_car_0 rfl (z_iload_n 1 dX7_car_1 rfl ?_)
  refine z_bindX (fun j9 hb3 => ?_)
  obtain ⟨v1 | e4, w2⟩ := j9
  case inr => exact z_callVX (kc' := 1) (ks' := 6) (r := (.inr e4, S, w2)) (st := []) [.int a1] (m_X7_checkStored hW w a0 h0 a1 _ hb3) zc7 h0 zy_X7_checkStored gw577 gp5 gw575 (Nat.le_of_ble_eq_true rfl) (Nat.le_of_ble_eq_true rfl) (Nat.le_of_ble_eq_true rfl) (Nat.le_of_ble_eq_true rfl) (zal hW) rfl dX7_car_2 rfl (fun _ q9 => nomatch q9) (fun _ _ i9 hi9 => by cases hi9; rfl)
  refine z_callVX (kc' := 1) (ks' := 6) (r := (.inl (eU v1), S, w2)) (st := []) [.int a1] (m_X7_checkStored hW w a0 h0 a1 _ hb3) zc7 h0 zy_X7_checkStored gw577 gp5 gw575 (Nat.le_of_ble_eq_true rfl) (Nat.le_of_ble_eq_true rfl) (Nat.le_of_ble_eq_true rfl) (Nat.le_of_ble_eq_true rfl) (zal hW) rfl dX7_car_2 rfl (fun v9 hv9 => ?_) (fun _ q9 => nomatch q9)
  cases hv9
  refine z_at 5 _ [] rfl rfl rfl ?_
  dsimp only [zbx]
  refine z_iload_n 2 dX7_car_5 rfl ?_
  refine z_ite _ (fun q5 => ?_) (fun q5 => ?_)
  · refine z_tabIn (off := 34) 40 dX7_car_6 (by rw [q5]; decide) (by rw [q5]; decide) (by rw [q5]; decide) rfl ?_
    refine z_aload_n 0 dX7_car_40 rfl (z_getR zc7 0 (by decide) rfl gw216 h0 (zW_some hW h0 0 rfl) dX7_car_41 (z_iload_n 1 dX7_car_44 rfl ?_))
    refine z_bind (fun v6 hb7 => ?_)
    refine z_callV (kc' := 1) (ks' := 6) (v := (some (.int v6))) (S1 := S) (w1 := w2) (st := []) [.int a1] (m_X1_sizeOf hW w2 (zr S a0 0) (zW_obj hW h0 0 1 rfl) a1 v6 hb7) zc1 (zW_obj hW h0 0 1 rfl) zy_X1_sizeOf gw639 gw640 gw638 (Nat.le_of_ble_eq_true rfl) (Nat.le_of_ble_eq_true rfl) (Nat.le_of_ble_eq_true rfl) (Nat.le_of_ble_eq_true rfl) (zal hW) rfl dX7_car_45 (z_at 48 _ [.int v6] rfl rfl rfl ?_)
    exact z_iret zemX rfl dX7_car_48
  refine z_ite _ (fun q8 => ?_) (fun q8 => ?_)
  · refine z_tabIn (off := 43) 49 dX7_car_6 (by rw [q8]; decide) (by rw [q8]; decide) (by rw [q8]; decide) rfl ?_
    refine z_aload_n 0 dX7_car_49 rfl (z_getR zc7 0 (by decide) rfl gw216 h0 (zW_some hW h0 0 rfl) dX7_car_50 (z_iload_n 1 dX7_car_53 rfl ?_))
    refine z_bind (fun v9 hb10 => ?_)
    refine z_callV (kc' := 1) (ks' := 6) (v := (some (.int v9))) (S1 := S) (w1 := w2) (st := []) [.int a1] (m_X1_pickupOf hW w2 (zr S a0 0) (zW_obj hW h0 0 1 rfl) a1 v9 hb10) zc1 (zW_obj hW h0 0 1 rfl) zy_X1_pickupOf gw643 gw644 gw642 (Nat.le_of_ble_eq_true rfl) (Nat.le_of_ble_eq_true rfl) (Nat.le_of_ble_eq_true rfl) (Nat.le_of_ble_eq_true rfl) (zal hW) rfl dX7_car_54 (z_at 57 _ [.int v9] rfl rfl rfl ?_)
    exact z_iret zemX rfl dX7_car_57
  refine z_ite _ (fun q11 => ?_) (fun q11 => ?_)
  · refine z_tabIn (off := 52) 58 dX7_car_6 (by rw [q11]; decide) (by rw [q11]; decide) (by rw [q11]; decide) rfl ?_
    refine z_aload_n 0 dX7_car_58 rfl (z_getR zc7 0 (by decide) rfl gw216 h0 (zW_some hW h0 0 rfl) dX7_car_59 (z_iload_n 1 dX7_car_62 rfl ?_))
    refine z_bind (fun v12 hb13 => ?_)
    refine z_callV (kc' := 1) (ks' := 6) (v := (some (.int v12))) (S1 := S) (w1 := w2) (st := []) [.int a1] (m_X1_bayOf hW w2 (zr S a0 0) (zW_obj hW h0 0 1 rfl) a1 v12 hb13) zc1 (zW_obj hW h0 0 1 rfl) zy_X1_bayOf gw647 gw648 gw646 (Nat.le_of_ble_eq_true rfl) (Nat.le_of_ble_eq_true rfl) (Nat.le_of_ble_eq_true rfl) (Nat.le_of_ble_eq_true rfl) (zal hW) rfl dX7_car_63 (z_at 66 _ [.int v12] rfl rfl rfl ?_)
    exact z_iret zemX rfl dX7_car_66
  refine z_ite _ (fun q14 => ?_) (fun q14 => ?_)
  · refine z_tabIn (off := 61) 67 dX7_car_6 (by rw [q14]; decide) (by rw [q14]; decide) (by rw [q14]; decide) rfl ?_
    refine z_aload_n 0 dX7_car_67 rfl (z_getR zc7 0 (by decide) rfl gw216 h0 (zW_some hW h0 0 rfl) dX7_car_68 (z_iload_n 1 dX7_car_71 rfl ?_))
    refine z_bind (fun v15 hb16 => ?_)
    refine z_callV (kc' := 1) (ks' := 6) (v := (some (.int v15))) (S1 := S) (w1 := w2) (st := []) [.int a1] (m_X1_blockerOf hW w2 (zr S a0 0) (zW_obj hW h0 0 1 rfl) a1 v15 hb16) zc1 (zW_obj hW h0 0 1 rfl) zy_X1_blockerOf gw278 gw279 gw609 (Nat.le_of_ble_eq_true rfl) (Nat.le_of_ble_eq_true rfl) (Nat.le_of_ble_eq_true rfl) (Nat.le_of_ble_eq_true rfl) (zal hW) rfl dX7_car_72 (z_at 75 _ [.int v15] rfl rfl rfl ?_)
    exact z_iret zemX rfl dX7_car_75
  refine z_ite _ (fun q17 => ?_) (fun q17 => ?_)
  · refine z_tabIn (off := 70) 76 dX7_car_6 (by rw [q17]; decide) (by rw [q17]; decide) (by rw [q17]; decide) rfl ?_
    refine z_aload_n 0 dX7_car_76 rfl (z_getR zc7 0 (by decide) rfl gw216 h0 (zW_some hW h0 0 rfl) dX7_car_77 (z_iload_n 1 dX7_car_80 rfl ?_))
    refine z_bind (fun v18 hb19 => ?_)
    refine z_callV (kc' := 1) (ks' := 6) (v := (some (.int v18))) (S1 := S) (w1 := w2) (st := []) [.int a1] (m_X1_jobsOf hW w2 (zr S a0 0) (zW_obj hW h0 0 1 rfl) a1 v18 hb19) zc1 (zW_obj hW h0 0 1 rfl) zy_X1_jobsOf gw651 gw652 gw650 (Nat.le_of_ble_eq_true rfl) (Nat.le_of_ble_eq_true rfl) (Nat.le_of_ble_eq_true rfl) (Nat.le_of_ble_eq_true rfl) (zal hW) rfl dX7_car_81 (z_at 84 _ [.int v18] rfl rfl rfl ?_)
    exact z_iret zemX rfl dX7_car_84
  refine z_tabOut 85 dX7_car_6 ?_ rfl ?_
  · have n0 := zsw_ne (k := 0) (0 : Int32) (by decide) q5; have n1 := zsw_ne (k := 1) (1 : Int32) (by decide) q8; have n2 := zsw_ne (k := 2) (2 : Int32) (by decide) q11; have n3 := zsw_ne (k := 3) (3 : Int32) (by decide) q14; have n4 := zsw_ne (k := 4) (4 : Int32) (by decide) q17; omega
  exact z_throw zx_IAE gw427 zt_RX7_108 (Nat.le_of_ble_eq_true rfl) (Nat.le_of_ble_eq_true rfl) (Nat.le_of_ble_eq_true rfl) rfl (Nat.le_of_ble_eq_true rfl) zemXr dX7_car_85 dX7_car_88 dX7_car_89 dX7_car_91 dX7_car_94

theorem m_X7_car {E : ZE} {S : Zs} (hW : zWF S) (w : Zw) (a0 : Nat) (h0 : zObj S a0 7) (a1 : Int32) (a2 : Int32) : ∀ i, f_X7_car S w a0 a1 a2 = some i → zMx E yX7_car cX7_car 3 ((some .int)) 7 2 12 [.ref a0, .int a1, .int a2] S w ((emX eI S) i) :=
  fun i hi => z_enterX (by decide +kernel) (Nat.le_of_ble_eq_true rfl) (mw_X7_car hW w a0 h0 a1 a2 i hi)
end ZFN
