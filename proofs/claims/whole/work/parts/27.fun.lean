section ZFN
/-! ParkingRobotModel.plainMoves (J)I : W, depth 11 -/
abbrev i_X8_plainMoves : Zm := (yX8_plainMoves.cls, cX8_plainMoves, 5, (some .int), [], yX8_plainMoves.name)
def f_X8_plainMoves_j76 (S : Zs) (w : Zw) (x0 : Nat) (x3 : Int32) (x4 : Int32) (k12 : (Int32 × Zw) → Option (Int32 × Zw)) : Option (Int32 × Zw) :=
  if zin x3 (zlen S (zr S x0 13)) = true then if zin x4 (zlen S (zr S x0 14)) = true then zlet (zput w (zr S x0 14) (zix x4) (w (zr S x0 13) (zix x3))) fun w17 => k12 ((x3 + (1 : Int32)), w17) else none else none
theorem m_X8_plainMoves_j76 {E : ZE} {S : Zs} (hW : zWF S) (w : Zw) (x0 : Nat) (hx0 : zObj S x0 8) (x3 : Int32) (x4 : Int32) (k12 : (Int32 × Zw) → Option (Int32 × Zw)) (hk12 : ∀ a : Int32 × Zw, zOk (E, i_X8_plainMoves, 11) 0 0 S a.2 12 [(0, .ref x0), (3, .int a.1)] [] (emW eI S) (k12 a)) : zOk (E, i_X8_plainMoves, 11) 0 0 S w 76 [(0, .ref x0), (3, .int x3), (4, .int x4)] [] (emW eI S) (f_X8_plainMoves_j76 S w x0 x3 x4 k12) := by
  unfold f_X8_plainMoves_j76
  refine z_aload_n 0 dX8_plainMoves_76 rfl (z_getR zc8 14 (by decide) rfl gw1121 hx0 (zW_some hW hx0 14 rfl) dX8_plainMoves_77 (z_iload 2 dX8_plainMoves_80 rfl (z_aload_n 0 dX8_plainMoves_82 rfl (z_getR zc8 13 (by decide) rfl gw1120 hx0 (zW_some hW hx0 13 rfl) dX8_plainMoves_83 (z_iload_n 1 dX8_plainMoves_86 rfl ?_)))))
  refine z_chk (fun c15 => ?_)
  refine z_iald (zW_arr hW hx0 13 0 rfl) c15 dX8_plainMoves_87 ?_
  refine z_chk (fun c16 => ?_)
  refine z_iast (zW_arr hW hx0 14 0 rfl) c16 dX8_plainMoves_88 (z_letw (fun w17 => ?_))
  refine z_iinc (v := (x3 + (1 : Int32))) (lv' := [(3, .int (x3 + (1 : Int32))), (0, .ref x0), (4, .int x4)]) 1 dX8_plainMoves_89 rfl (zi_inc _ zi_1) (Nat.le_of_ble_eq_true rfl) rfl (z_goto 12 dX8_plainMoves_92 rfl ?_)
  refine z_sub (lv' := [(0, .ref x0), (3, .int (x3 + (1 : Int32)))]) [1, 0] rfl ?_
  refine z_pc (pc' := 12) rfl ?_
  exact hk12 ((x3 + (1 : Int32)), w17)

def f_X8_plainMoves_b23 (S : Zs) (x0 : Nat) (x3 : Int32) (k12 : (Int32 × Zw) → Option (Int32 × Zw)) (k : (Int32 × Zw) → Option (Int32 × Zw)) (x4 : Int32) (w : Zw) : Option (Int32 × Zw) :=
  if x4 ≤ 0 then f_X8_plainMoves_j76 S w x0 x3 x4 k12  else if zin x3 (zlen S (zr S x0 13)) = true then (f_X8_pickup S w x0 (w (zr S x0 13) (zix x3))).bind fun v19 => if zin (x4 - (1 : Int32)) (zlen S (zr S x0 14)) = true then (f_X8_pickup S w x0 (w (zr S x0 14) (zix (x4 - (1 : Int32))))).bind fun v22 => if v22 ≤ v19 then f_X8_plainMoves_j76 S w x0 x3 x4 k12  else if zin (x4 - (1 : Int32)) (zlen S (zr S x0 14)) = true then if zin x4 (zlen S (zr S x0 14)) = true then zlet (zput w (zr S x0 14) (zix x4) (w (zr S x0 14) (zix (x4 - (1 : Int32))))) fun w27 => k ((x4 + (-1 : Int32)), w27) else none else none else none else none
def f_X8_plainMoves_l23 (S : Zs) (x0 : Nat) (x3 : Int32) (k12 : (Int32 × Zw) → Option (Int32 × Zw)) (a : Int32 × Zw) : Option (Int32 × Zw) :=
  zlp (fun k a => f_X8_plainMoves_b23 S x0 x3 k12 k a.1 a.2) zFU a
theorem m_X8_plainMoves_l23 {E : ZE} {S : Zs} (hW : zWF S) (x0 : Nat) (hx0 : zObj S x0 8) (x3 : Int32) (k12 : (Int32 × Zw) → Option (Int32 × Zw)) (hk12 : ∀ a : Int32 × Zw, zOk (E, i_X8_plainMoves, 11) 0 0 S a.2 12 [(0, .ref x0), (3, .int a.1)] [] (emW eI S) (k12 a)) : ∀ a : Int32 × Zw, zOk (E, i_X8_plainMoves, 11) 0 0 S a.2 23 [(0, .ref x0), (3, .int x3), (4, .int a.1)] [] (emW eI S) (f_X8_plainMoves_l23 S x0 x3 k12 a) := by
  intro a
  refine z_lp (P := fun _ => True) (W9 := fun a : Int32 × Zw => a.2) (L9 := fun a : Int32 × Zw => [(0, .ref x0), (3, .int x3), (4, .int a.1)]) (T9 := fun _ => []) (fun k hk9 a _ => ?_) zFU a trivial
  have hk : ∀ a : Int32 × Zw, zOk (E, i_X8_plainMoves, 11) 0 0 S a.2 23 [(0, .ref x0), (3, .int x3), (4, .int a.1)] [] (emW eI S) (k a) := fun a => hk9 a trivial
  clear hk9
  obtain ⟨x4, w⟩ := a
  show zOk (E, i_X8_plainMoves, 11) 0 0 S w 23 [(0, .ref x0), (3, .int x3), (4, .int x4)] [] (emW eI S) (f_X8_plainMoves_b23 S x0 x3 k12 k x4 w)
  unfold f_X8_plainMoves_b23
  refine z_iload 2 dX8_plainMoves_23 rfl ?_
  refine z_if_le 76 dX8_plainMoves_25 rfl (fun q14 => ?_) (fun q14 => ?_)
  · refine z_pc (pc' := 76) rfl ?_
    exact m_X8_plainMoves_j76 hW w x0 hx0 x3 x4 k12 hk12 
  · refine z_aload_n 0 dX8_plainMoves_28 rfl (z_aload_n 0 dX8_plainMoves_29 rfl (z_getR zc8 13 (by decide) rfl gw1120 hx0 (zW_some hW hx0 13 rfl) dX8_plainMoves_30 (z_iload_n 1 dX8_plainMoves_33 rfl ?_)))
    refine z_chk (fun c18 => ?_)
    refine z_iald (zW_arr hW hx0 13 0 rfl) c18 dX8_plainMoves_34 ?_
    refine z_bind (fun v19 hb20 => ?_)
    refine z_callV (kc' := 0) (ks' := 0) (v := (some (.int v19))) (S1 := S) (w1 := w) (st := []) [.int (w (zr S x0 13) (zix x3))] (m_X8_pickup hW w x0 hx0 (w (zr S x0 13) (zix x3)) v19 hb20) zc8 hx0 zy_X8_pickup gw1251 gp32 gw1249 (Nat.le_of_ble_eq_true rfl) (Nat.le_of_ble_eq_true rfl) (Nat.le_of_ble_eq_true rfl) (Nat.le_of_ble_eq_true rfl) (zal hW) rfl dX8_plainMoves_35 (z_at 38 _ [.int v19] rfl rfl rfl ?_)
    refine z_aload_n 0 dX8_plainMoves_38 rfl (z_aload_n 0 dX8_plainMoves_39 rfl (z_getR zc8 14 (by decide) rfl gw1121 hx0 (zW_some hW hx0 14 rfl) dX8_plainMoves_40 (z_iload 2 dX8_plainMoves_43 rfl (z_iconst dX8_plainMoves_45 zi_1 (z_isub dX8_plainMoves_46 ?_)))))
    refine z_chk (fun c21 => ?_)
    refine z_iald (zW_arr hW hx0 14 0 rfl) c21 dX8_plainMoves_47 ?_
    refine z_bind (fun v22 hb23 => ?_)
    refine z_callV (kc' := 0) (ks' := 0) (v := (some (.int v22))) (S1 := S) (w1 := w) (st := [.int v19]) [.int (w (zr S x0 14) (zix (x4 - (1 : Int32))))] (m_X8_pickup hW w x0 hx0 (w (zr S x0 14) (zix (x4 - (1 : Int32)))) v22 hb23) zc8 hx0 zy_X8_pickup gw1251 gp32 gw1249 (Nat.le_of_ble_eq_true rfl) (Nat.le_of_ble_eq_true rfl) (Nat.le_of_ble_eq_true rfl) (Nat.le_of_ble_eq_true rfl) (zal hW) rfl dX8_plainMoves_48 (z_at 51 _ [.int v22, .int v19] rfl rfl rfl ?_)
    refine z_icmp_ge 76 dX8_plainMoves_51 rfl (fun q24 => ?_) (fun q24 => ?_)
    · refine z_pc (pc' := 76) rfl ?_
      exact m_X8_plainMoves_j76 hW w x0 hx0 x3 x4 k12 hk12 
    · refine z_aload_n 0 dX8_plainMoves_54 rfl (z_getR zc8 14 (by decide) rfl gw1121 hx0 (zW_some hW hx0 14 rfl) dX8_plainMoves_55 (z_iload 2 dX8_plainMoves_58 rfl (z_aload_n 0 dX8_plainMoves_60 rfl (z_getR zc8 14 (by decide) rfl gw1121 hx0 (zW_some hW hx0 14 rfl) dX8_plainMoves_61 (z_iload 2 dX8_plainMoves_64 rfl ?_)))))
      refine z_iconst dX8_plainMoves_66 zi_1 (z_isub dX8_plainMoves_67 ?_)
      refine z_chk (fun c25 => ?_)
      refine z_iald (zW_arr hW hx0 14 0 rfl) c25 dX8_plainMoves_68 ?_
      refine z_chk (fun c26 => ?_)
      refine z_iast (zW_arr hW hx0 14 0 rfl) c26 dX8_plainMoves_69 (z_letw (fun w27 => ?_))
      refine z_iinc (v := (x4 + (-1 : Int32))) (lv' := [(4, .int (x4 + (-1 : Int32))), (0, .ref x0), (3, .int x3)]) 2 dX8_plainMoves_70 rfl (zi_inc _ zi_m1) (Nat.le_of_ble_eq_true rfl) rfl (z_goto 23 dX8_plainMoves_73 rfl ?_)
      refine z_sub (lv' := [(0, .ref x0), (3, .int x3), (4, .int (x4 + (-1 : Int32)))]) [1, 2, 0] rfl ?_
      refine z_pc (pc' := 23) rfl ?_
      exact hk ((x4 + (-1 : Int32)), w27)

def f_X8_plainMoves_b12 (S : Zs) (x0 : Nat) (k : (Int32 × Zw) → Option (Int32 × Zw)) (x3 : Int32) (w : Zw) : Option (Int32 × Zw) :=
  if (w x0 16) ≤ x3 then (f_X8_copies S w (zr S x0 1) (0 : Int32) (zr S x0 3) (0 : Int32)).bind fun r5 => (f_X8_goes S r5.2 x0).bind fun r7 => (f_X8_copies S r7.2 (zr S x0 3) (0 : Int32) (zr S x0 1) (0 : Int32)).bind fun r9 => if r7.1 = 0 then (f_X8_fails S r9.2 x0 (3 : Int32)).bind fun r12 => some (r12.1, r12.2) else some ((r9.2 x0 19), r9.2) else f_X8_plainMoves_l23 S x0 x3 k (x3, w)
def f_X8_plainMoves_l12 (S : Zs) (x0 : Nat) (a : Int32 × Zw) : Option (Int32 × Zw) :=
  zlp (fun k a => f_X8_plainMoves_b12 S x0 k a.1 a.2) zFU a
theorem m_X8_plainMoves_l12 {E : ZE} {S : Zs} (hW : zWF S) (x0 : Nat) (hx0 : zObj S x0 8) : ∀ a : Int32 × Zw, zOk (E, i_X8_plainMoves, 11) 0 0 S a.2 12 [(0, .ref x0), (3, .int a.1)] [] (emW eI S) (f_X8_plainMoves_l12 S x0 a) := by
  intro a
  refine z_lp (P := fun _ => True) (W9 := fun a : Int32 × Zw => a.2) (L9 := fun a : Int32 × Zw => [(0, .ref x0), (3, .int a.1)]) (T9 := fun _ => []) (fun k hk9 a _ => ?_) zFU a trivial
  have hk : ∀ a : Int32 × Zw, zOk (E, i_X8_plainMoves, 11) 0 0 S a.2 12 [(0, .ref x0), (3, .int a.1)] [] (emW eI S) (k a) := fun a => hk9 a trivial
  clear hk9
  obtain ⟨x3, w⟩ := a
  show zOk (E, i_X8_plainMoves, 11) 0 0 S w 12 [(0, .ref x0), (3, .int x3)] [] (emW eI S) (f_X8_plainMoves_b12 S x0 k x3 w)
  unfold f_X8_plainMoves_b12
  refine z_iload_n 1 dX8_plainMoves_12 rfl (z_aload_n 0 dX8_plainMoves_13 rfl (z_getI zc8 16 (by decide) rfl gw1123 hx0 dX8_plainMoves_14 ?_))
  refine z_icmp_ge 95 dX8_plainMoves_17 rfl (fun q4 => ?_) (fun q4 => ?_)
  · refine z_aload_n 0 dX8_plainMoves_95 rfl (z_getR zc8 1 (by decide) rfl gw1108 hx0 (zW_some hW hx0 1 rfl) dX8_plainMoves_96 (z_iconst dX8_plainMoves_99 zi_0 (z_aload_n 0 dX8_plainMoves_100 rfl (z_getR zc8 3 (by decide) rfl gw1110 hx0 (zW_some hW hx0 3 rfl) dX8_plainMoves_101 (z_iconst dX8_plainMoves_104 zi_0 ?_)))))
    refine z_bind (fun r5 hb6 => ?_)
    refine z_callS (kc' := 0) (ks' := 0) (v := none) (S1 := S) (w1 := r5.2) (st := []) [.ref (zr S x0 1), .int (0 : Int32), .ref (zr S x0 3), .int (0 : Int32)] (m_X8_copies hW w (zr S x0 1) (zW_arr hW hx0 1 0 rfl) (0 : Int32) (zr S x0 3) (zW_arr hW hx0 3 0 rfl) (0 : Int32) r5 hb6) zy_X8_copies gw1198 gw1197 (Nat.le_of_ble_eq_true rfl) (Nat.le_of_ble_eq_true rfl) (Nat.le_of_ble_eq_true rfl) (Nat.le_of_ble_eq_true rfl) (zal hW) rfl dX8_plainMoves_105 (z_at 108 _ [] rfl rfl rfl ?_)
    refine z_aload_n 0 dX8_plainMoves_108 rfl ?_
    refine z_bind (fun r7 hb8 => ?_)
    refine z_callV (kc' := 0) (ks' := 0) (v := (some (.int r7.1))) (S1 := S) (w1 := r7.2) (st := []) [] (m_X8_goes hW r5.2 x0 hx0 r7 hb8) zc8 hx0 zy_X8_goes gw1400 gp56 gw1398 (Nat.le_of_ble_eq_true rfl) (Nat.le_of_ble_eq_true rfl) (Nat.le_of_ble_eq_true rfl) (Nat.le_of_ble_eq_true rfl) (zal hW) rfl dX8_plainMoves_109 (z_at 112 _ [.int r7.1] rfl rfl rfl ?_)
    refine z_istore_n (lv' := [(3, .int r7.1), (0, .ref x0)]) dX8_plainMoves_112 (Nat.le_of_ble_eq_true rfl) rfl (z_aload_n 1 dX8_plainMoves_113 rfl (z_getR zc8 3 (by decide) rfl gw1110 hx0 (zW_some hW hx0 3 rfl) dX8_plainMoves_114 (z_iconst dX8_plainMoves_117 zi_0 (z_aload_n 1 dX8_plainMoves_118 rfl (z_getR zc8 1 (by decide) rfl gw1108 hx0 (zW_some hW hx0 1 rfl) dX8_plainMoves_119 ?_)))))
    refine z_iconst dX8_plainMoves_122 zi_0 ?_
    refine z_bind (fun r9 hb10 => ?_)
    refine z_callS (kc' := 0) (ks' := 0) (v := none) (S1 := S) (w1 := r9.2) (st := []) [.ref (zr S x0 3), .int (0 : Int32), .ref (zr S x0 1), .int (0 : Int32)] (m_X8_copies hW r7.2 (zr S x0 3) (zW_arr hW hx0 3 0 rfl) (0 : Int32) (zr S x0 1) (zW_arr hW hx0 1 0 rfl) (0 : Int32) r9 hb10) zy_X8_copies gw1198 gw1197 (Nat.le_of_ble_eq_true rfl) (Nat.le_of_ble_eq_true rfl) (Nat.le_of_ble_eq_true rfl) (Nat.le_of_ble_eq_true rfl) (zal hW) rfl dX8_plainMoves_123 (z_at 126 _ [] rfl rfl rfl ?_)
    refine z_iload_n 0 dX8_plainMoves_126 rfl ?_
    refine z_if_eq 137 dX8_plainMoves_127 rfl (fun q11 => ?_) (fun q11 => ?_)
    · refine z_aload_n 1 dX8_plainMoves_137 rfl (z_iconst dX8_plainMoves_138 zi_3 ?_)
      refine z_bind (fun r12 hb13 => ?_)
      refine z_callV (kc' := 0) (ks' := 0) (v := (some (.int r12.1))) (S1 := S) (w1 := r12.2) (st := []) [.int (3 : Int32)] (m_X8_fails hW r9.2 x0 hx0 (3 : Int32) r12 hb13) zc8 hx0 zy_X8_fails gw1215 gp27 gw1213 (Nat.le_of_ble_eq_true rfl) (Nat.le_of_ble_eq_true rfl) (Nat.le_of_ble_eq_true rfl) (Nat.le_of_ble_eq_true rfl) (zal hW) rfl dX8_plainMoves_139 (z_at 142 _ [.int r12.1] rfl rfl rfl ?_)
      exact z_iret zemW rfl dX8_plainMoves_142
    · refine z_aload_n 1 dX8_plainMoves_130 rfl (z_getI zc8 19 (by decide) rfl gw1126 hx0 dX8_plainMoves_131 (z_goto 142 dX8_plainMoves_134 rfl ?_))
      exact z_iret zemW rfl dX8_plainMoves_142
  · refine z_iload_n 1 dX8_plainMoves_20 rfl (z_istore (lv' := [(4, .int x3), (0, .ref x0), (3, .int x3)]) dX8_plainMoves_21 (Nat.le_of_ble_eq_true rfl) rfl ?_)
    refine z_sub (lv' := [(0, .ref x0), (3, .int x3), (4, .int x3)]) [1, 2, 0] rfl ?_
    refine z_pc (pc' := 23) rfl ?_
    exact m_X8_plainMoves_l23 hW x0 hx0 x3 k hk (x3, w)

def f_X8_plainMoves (S : Zs) (w : Zw) (a0 : Nat) (a1 : Int64) : Option (Int32 × Zw) :=
  (f_X8_isSet S w a0 a1).bind fun r1 => if r1.1 = 0 then some ((0 : Int32), r1.2) else f_X8_plainMoves_l12 S a0 ((0 : Int32), r1.2)
theorem mw_X8_plainMoves {E : ZE} {S : Zs} (hW : zWF S) (w : Zw) (a0 : Nat) (h0 : zObj S a0 8) (a1 : Int64) : zOk (E, i_X8_plainMoves, 11) 0 0 S w 0 [(0, .ref a0), (1, .long a1)] [] (emW eI S) (f_X8_plainMoves S w a0 a1) := by
  unfold f_X8_plainMoves
  refine z_aload_n 0 dX8_plainMoves_0 rfl (z_lload_n 1 dX8_plainMoves_1 rfl ?_)
  refine z_bind (fun r1 hb2 => ?_)
  refine z_callV (kc' := 0) (ks' := 0) (v := (some (.int r1.1))) (S1 := S) (w1 := r1.2) (st := []) [.long a1] (m_X8_isSet hW w a0 h0 a1 r1 hb2) zc8 h0 zy_X8_isSet gw1383 gp52 gw1381 (Nat.le_of_ble_eq_true rfl) (Nat.le_of_ble_eq_true rfl) (Nat.le_of_ble_eq_true rfl) (Nat.le_of_ble_eq_true rfl) (zal hW) rfl dX8_plainMoves_2 (z_at 5 _ [.int r1.1] rfl rfl rfl ?_)
  refine z_if_ne 10 dX8_plainMoves_5 rfl (fun q3 => ?_) (fun q3 => ?_)
  · refine z_iconst dX8_plainMoves_10 zi_0 (z_istore_n (lv' := [(3, .int (0 : Int32)), (0, .ref a0), (1, .long a1)]) dX8_plainMoves_11 (Nat.le_of_ble_eq_true rfl) rfl ?_)
    refine z_sub (lv' := [(0, .ref a0), (3, .int (0 : Int32))]) [1, 0] rfl ?_
    refine z_pc (pc' := 12) rfl ?_
    exact m_X8_plainMoves_l12 hW a0 h0 ((0 : Int32), r1.2)
  · refine z_iconst dX8_plainMoves_8 zi_0 ?_
    exact z_iret zemW rfl dX8_plainMoves_9

theorem m_X8_plainMoves {E : ZE} {S : Zs} (hW : zWF S) (w : Zw) (a0 : Nat) (h0 : zObj S a0 8) (a1 : Int64) : ∀ i, f_X8_plainMoves S w a0 a1 = some i → zMr E yX8_plainMoves cX8_plainMoves 5 ((some .int)) 11 0 0 [.ref a0, .long a1] S w ((emW eI S) i) :=
  fun i hi => z_enter (by decide +kernel) (Nat.le_of_ble_eq_true rfl) (mw_X8_plainMoves hW w a0 h0 a1 i hi)
/-! ParkingRobotModel.refuge (I)I : W, depth 8 -/
abbrev i_X8_refuge : Zm := (yX8_refuge.cls, cX8_refuge, 3, (some .int), [], yX8_refuge.name)
def f_X8_refuge (S : Zs) (w : Zw) (a0 : Nat) (a1 : Int32) : Option (Int32 × Zw) :=
  zlet (zput w a0 0 (0 : Int32)) fun w1 => (f_X8_isCar S w1 a0 a1).bind fun v2 => if v2 = 0 then (f_X8_fails S w1 a0 (1 : Int32)).bind fun r16 => some (r16.1, r16.2) else (f_X8_of S w1 a0 a1 (0 : Int32)).bind fun v5 => (f_X8_pickup S w1 a0 a1).bind fun v7 => (f_X8_bayOf S w1 a0 a1).bind fun v9 => (f_X8_chosen S w1 a0 v5 v7 v9).bind fun v11 => if 0 ≤ v11 then some (v11, w1) else (f_X8_fails S w1 a0 (2 : Int32)).bind fun r14 => some (r14.1, r14.2)
theorem mw_X8_refuge {E : ZE} {S : Zs} (hW : zWF S) (w : Zw) (a0 : Nat) (h0 : zObj S a0 8) (a1 : Int32) : zOk (E, i_X8_refuge, 8) 0 0 S w 0 [(0, .ref a0), (1, .int a1)] [] (emW eI S) (f_X8_refuge S w a0 a1) := by
  unfold f_X8_refuge
  refine z_aload_n 0 dX8_refuge_0 rfl (z_iconst dX8_refuge_1 zi_0 ?_)
  refine z_putI zc8 0 (by decide) (Or.inl rfl) rfl gw1107 h0 dX8_refuge_2 (z_letw (fun w1 => ?_))
  refine z_aload_n 0 dX8_refuge_5 rfl (z_iload_n 1 dX8_refuge_6 rfl ?_)
  refine z_bind (fun v2 hb3 => ?_)
  refine z_callV (kc' := 0) (ks' := 0) (v := (some (.int v2))) (S1 := S) (w1 := w1) (st := []) [.int a1] (m_X8_isCar hW w1 a0 h0 a1 v2 hb3) zc8 h0 zy_X8_isCar gw1301 gp42 gw1299 (Nat.le_of_ble_eq_true rfl) (Nat.le_of_ble_eq_true rfl) (Nat.le_of_ble_eq_true rfl) (Nat.le_of_ble_eq_true rfl) (zal hW) rfl dX8_refuge_7 (z_at 10 _ [.int v2] rfl rfl rfl ?_)
  refine z_if_ne 19 dX8_refuge_10 rfl (fun q4 => ?_) (fun q4 => ?_)
  · refine z_aload_n 0 dX8_refuge_19 rfl (z_aload_n 0 dX8_refuge_20 rfl (z_iload_n 1 dX8_refuge_21 rfl (z_iconst dX8_refuge_22 zi_0 ?_)))
    refine z_bind (fun v5 hb6 => ?_)
    refine z_callV (kc' := 0) (ks' := 0) (v := (some (.int v5))) (S1 := S) (w1 := w1) (st := [.ref a0]) [.int a1, .int (0 : Int32)] (m_X8_of hW w1 a0 h0 a1 (0 : Int32) v5 hb6) zc8 h0 zy_X8_of gw1255 gp33 gw1253 (Nat.le_of_ble_eq_true rfl) (Nat.le_of_ble_eq_true rfl) (Nat.le_of_ble_eq_true rfl) (Nat.le_of_ble_eq_true rfl) (zal hW) rfl dX8_refuge_23 (z_at 26 _ [.int v5, .ref a0] rfl rfl rfl ?_)
    refine z_aload_n 0 dX8_refuge_26 rfl (z_iload_n 1 dX8_refuge_27 rfl ?_)
    refine z_bind (fun v7 hb8 => ?_)
    refine z_callV (kc' := 0) (ks' := 0) (v := (some (.int v7))) (S1 := S) (w1 := w1) (st := [.int v5, .ref a0]) [.int a1] (m_X8_pickup hW w1 a0 h0 a1 v7 hb8) zc8 h0 zy_X8_pickup gw1251 gp32 gw1249 (Nat.le_of_ble_eq_true rfl) (Nat.le_of_ble_eq_true rfl) (Nat.le_of_ble_eq_true rfl) (Nat.le_of_ble_eq_true rfl) (zal hW) rfl dX8_refuge_28 (z_at 31 _ [.int v7, .int v5, .ref a0] rfl rfl rfl ?_)
    refine z_aload_n 0 dX8_refuge_31 rfl (z_iload_n 1 dX8_refuge_32 rfl ?_)
    refine z_bind (fun v9 hb10 => ?_)
    refine z_callV (kc' := 0) (ks' := 0) (v := (some (.int v9))) (S1 := S) (w1 := w1) (st := [.int v7, .int v5, .ref a0]) [.int a1] (m_X8_bayOf hW w1 a0 h0 a1 v9 hb10) zc8 h0 zy_X8_bayOf gw1305 gp43 gw1303 (Nat.le_of_ble_eq_true rfl) (Nat.le_of_ble_eq_true rfl) (Nat.le_of_ble_eq_true rfl) (Nat.le_of_ble_eq_true rfl) (zal hW) rfl dX8_refuge_33 (z_at 36 _ [.int v9, .int v7, .int v5, .ref a0] rfl rfl rfl ?_)
    refine z_bind (fun v11 hb12 => ?_)
    refine z_callV (kc' := 0) (ks' := 0) (v := (some (.int v11))) (S1 := S) (w1 := w1) (st := []) [.int v5, .int v7, .int v9] (m_X8_chosen hW w1 a0 h0 v5 v7 v9 v11 hb12) zc8 h0 zy_X8_chosen gw1219 gp28 gw1217 (Nat.le_of_ble_eq_true rfl) (Nat.le_of_ble_eq_true rfl) (Nat.le_of_ble_eq_true rfl) (Nat.le_of_ble_eq_true rfl) (zal hW) rfl dX8_refuge_36 (z_at 39 _ [.int v11] rfl rfl rfl ?_)
    refine z_istore_n (lv' := [(2, .int v11), (0, .ref a0), (1, .int a1)]) dX8_refuge_39 (Nat.le_of_ble_eq_true rfl) rfl (z_iload_n 0 dX8_refuge_40 rfl ?_)
    refine z_if_ge 52 dX8_refuge_41 rfl (fun q13 => ?_) (fun q13 => ?_)
    · refine z_iload_n 0 dX8_refuge_52 rfl ?_
      exact z_iret zemW rfl dX8_refuge_53
    · refine z_aload_n 1 dX8_refuge_44 rfl (z_iconst dX8_refuge_45 zi_2 ?_)
      refine z_bind (fun r14 hb15 => ?_)
      refine z_callV (kc' := 0) (ks' := 0) (v := (some (.int r14.1))) (S1 := S) (w1 := r14.2) (st := []) [.int (2 : Int32)] (m_X8_fails hW w1 a0 h0 (2 : Int32) r14 hb15) zc8 h0 zy_X8_fails gw1215 gp27 gw1213 (Nat.le_of_ble_eq_true rfl) (Nat.le_of_ble_eq_true rfl) (Nat.le_of_ble_eq_true rfl) (Nat.le_of_ble_eq_true rfl) (zal hW) rfl dX8_refuge_46 (z_at 49 _ [.int r14.1] rfl rfl rfl ?_)
      refine z_goto 53 dX8_refuge_49 rfl ?_
      exact z_iret zemW rfl dX8_refuge_53
  · refine z_aload_n 0 dX8_refuge_13 rfl (z_iconst dX8_refuge_14 zi_1 ?_)
    refine z_bind (fun r16 hb17 => ?_)
    refine z_callV (kc' := 0) (ks' := 0) (v := (some (.int r16.1))) (S1 := S) (w1 := r16.2) (st := []) [.int (1 : Int32)] (m_X8_fails hW w1 a0 h0 (1 : Int32) r16 hb17) zc8 h0 zy_X8_fails gw1215 gp27 gw1213 (Nat.le_of_ble_eq_true rfl) (Nat.le_of_ble_eq_true rfl) (Nat.le_of_ble_eq_true rfl) (Nat.le_of_ble_eq_true rfl) (zal hW) rfl dX8_refuge_15 (z_at 18 _ [.int r16.1] rfl rfl rfl ?_)
    exact z_iret zemW rfl dX8_refuge_18

theorem m_X8_refuge {E : ZE} {S : Zs} (hW : zWF S) (w : Zw) (a0 : Nat) (h0 : zObj S a0 8) (a1 : Int32) : ∀ i, f_X8_refuge S w a0 a1 = some i → zMr E yX8_refuge cX8_refuge 3 ((some .int)) 8 0 0 [.ref a0, .int a1] S w ((emW eI S) i) :=
  fun i hi => z_enter (by decide +kernel) (Nat.le_of_ble_eq_true rfl) (mw_X8_refuge hW w a0 h0 a1 i hi)
/-! ParkingRobotModel.report (II)I : W, depth 1 -/
abbrev i_X8_report : Zm := (yX8_report.cls, cX8_report, 3, (some .int), [], yX8_report.name)
def f_X8_report_j21 (S : Zs) (w : Zw) (x0 : Nat) : Option (Int32 × Zw) :=
  (f_X8_fails S w x0 (1 : Int32)).bind fun r3 => some (r3.1, r3.2)
theorem m_X8_report_j21 {E : ZE} {S : Zs} (hW : zWF S) (w : Zw) (x0 : Nat) (hx0 : zObj S x0 8) : zOk (E, i_X8_report, 1) 0 0 S w 21 [(0, .ref x0)] [] (emW eI S) (f_X8_report_j21 S w x0) := by
  unfold f_X8_report_j21
  refine z_aload_n 0 dX8_report_21 rfl (z_iconst dX8_report_22 zi_1 ?_)
  refine z_bind (fun r3 hb4 => ?_)
  refine z_callV (kc' := 0) (ks' := 0) (v := (some (.int r3.1))) (S1 := S) (w1 := r3.2) (st := []) [.int (1 : Int32)] (m_X8_fails hW w x0 hx0 (1 : Int32) r3 hb4) zc8 hx0 zy_X8_fails gw1215 gp27 gw1213 (Nat.le_of_ble_eq_true rfl) (Nat.le_of_ble_eq_true rfl) (Nat.le_of_ble_eq_true rfl) (Nat.le_of_ble_eq_true rfl) (zal hW) rfl dX8_report_23 (z_at 26 _ [.int r3.1] rfl rfl rfl ?_)
  exact z_iret zemW rfl dX8_report_26

def f_X8_report (S : Zs) (w : Zw) (a0 : Nat) (a1 : Int32) (a2 : Int32) : Option (Int32 × Zw) :=
  zlet (zput w a0 0 (0 : Int32)) fun w1 => if (w1 a0 10) < 0 then f_X8_report_j21 S w1 a0  else (f_X8_in a1 (0 : Int32) (2 : Int32)).bind fun v5 => if v5 = 0 then f_X8_report_j21 S w1 a0  else (f_X8_in a2 (0 : Int32) (1 : Int32)).bind fun v8 => if v8 = 0 then (f_X8_fails S w1 a0 (2 : Int32)).bind fun r14 => some (r14.1, r14.2) else if a2 = 0 then some (((1 : Int32) + a1), w1) else if a1 = 0 then some ((w1 a0 10), w1) else if a1 = (1 : Int32) then some ((w1 a0 11), w1) else some ((w1 a0 12), w1)
theorem mw_X8_report {E : ZE} {S : Zs} (hW : zWF S) (w : Zw) (a0 : Nat) (h0 : zObj S a0 8) (a1 : Int32) (a2 : Int32) : zOk (E, i_X8_report, 1) 0 0 S w 0 [(0, .ref a0), (1, .int a1), (2, .int a2)] [] (emW eI S) (f_X8_report S w a0 a1 a2) := by
  unfold f_X8_report
  refine z_aload_n 0 dX8_report_0 rfl (z_iconst dX8_report_1 zi_0 ?_)
  refine z_putI zc8 0 (by decide) (Or.inl rfl) rfl gw1107 h0 dX8_report_2 (z_letw (fun w1 => ?_))
  refine z_aload_n 0 dX8_report_5 rfl (z_getI zc8 10 (by decide) rfl gw1117 h0 dX8_report_6 ?_)
  refine z_if_lt 21 dX8_report_9 rfl (fun q2 => ?_) (fun q2 => ?_)
  · refine z_sub (lv' := [(0, .ref a0)]) [0] rfl ?_
    refine z_pc (pc' := 21) rfl ?_
    exact m_X8_report_j21 hW w1 a0 h0 
  · refine z_iload_n 1 dX8_report_12 rfl (z_iconst dX8_report_13 zi_0 (z_iconst dX8_report_14 zi_2 ?_))
    refine z_bind (fun v5 hb6 => ?_)
    refine z_callS (kc' := 0) (ks' := 0) (v := (some (.int v5))) (S1 := S) (w1 := w1) (st := []) [.int a1, .int (0 : Int32), .int (2 : Int32)] (m_X8_in hW w1 a1 (0 : Int32) (2 : Int32) v5 hb6) zy_X8_in gw1208 gw1207 (Nat.le_of_ble_eq_true rfl) (Nat.le_of_ble_eq_true rfl) (Nat.le_of_ble_eq_true rfl) (Nat.le_of_ble_eq_true rfl) (zal hW) rfl dX8_report_15 (z_at 18 _ [.int v5] rfl rfl rfl ?_)
    refine z_if_ne 27 dX8_report_18 rfl (fun q7 => ?_) (fun q7 => ?_)
    · refine z_iload_n 2 dX8_report_27 rfl (z_iconst dX8_report_28 zi_0 (z_iconst dX8_report_29 zi_1 ?_))
      refine z_bind (fun v8 hb9 => ?_)
      refine z_callS (kc' := 0) (ks' := 0) (v := (some (.int v8))) (S1 := S) (w1 := w1) (st := []) [.int a2, .int (0 : Int32), .int (1 : Int32)] (m_X8_in hW w1 a2 (0 : Int32) (1 : Int32) v8 hb9) zy_X8_in gw1208 gw1207 (Nat.le_of_ble_eq_true rfl) (Nat.le_of_ble_eq_true rfl) (Nat.le_of_ble_eq_true rfl) (Nat.le_of_ble_eq_true rfl) (zal hW) rfl dX8_report_30 (z_at 33 _ [.int v8] rfl rfl rfl ?_)
      refine z_if_ne 42 dX8_report_33 rfl (fun q10 => ?_) (fun q10 => ?_)
      · refine z_iload_n 2 dX8_report_42 rfl ?_
        refine z_if_ne 52 dX8_report_43 rfl (fun q11 => ?_) (fun q11 => ?_)
        · refine z_iload_n 1 dX8_report_52 rfl ?_
          refine z_if_ne 63 dX8_report_53 rfl (fun q12 => ?_) (fun q12 => ?_)
          · refine z_iload_n 1 dX8_report_63 rfl (z_iconst dX8_report_64 zi_1 ?_)
            refine z_icmp_ne 75 dX8_report_65 rfl (fun q13 => ?_) (fun q13 => ?_)
            · refine z_aload_n 0 dX8_report_75 rfl (z_getI zc8 12 (by decide) rfl gw1119 h0 dX8_report_76 ?_)
              exact z_iret zemW rfl dX8_report_79
            · refine z_aload_n 0 dX8_report_68 rfl (z_getI zc8 11 (by decide) rfl gw1118 h0 dX8_report_69 (z_goto 79 dX8_report_72 rfl ?_))
              exact z_iret zemW rfl dX8_report_79
          · refine z_aload_n 0 dX8_report_56 rfl (z_getI zc8 10 (by decide) rfl gw1117 h0 dX8_report_57 (z_goto 79 dX8_report_60 rfl ?_))
            exact z_iret zemW rfl dX8_report_79
        · refine z_iconst dX8_report_46 zi_1 (z_iload_n 1 dX8_report_47 rfl (z_iadd dX8_report_48 (z_goto 79 dX8_report_49 rfl ?_)))
          exact z_iret zemW rfl dX8_report_79
      · refine z_aload_n 0 dX8_report_36 rfl (z_iconst dX8_report_37 zi_2 ?_)
        refine z_bind (fun r14 hb15 => ?_)
        refine z_callV (kc' := 0) (ks' := 0) (v := (some (.int r14.1))) (S1 := S) (w1 := r14.2) (st := []) [.int (2 : Int32)] (m_X8_fails hW w1 a0 h0 (2 : Int32) r14 hb15) zc8 h0 zy_X8_fails gw1215 gp27 gw1213 (Nat.le_of_ble_eq_true rfl) (Nat.le_of_ble_eq_true rfl) (Nat.le_of_ble_eq_true rfl) (Nat.le_of_ble_eq_true rfl) (zal hW) rfl dX8_report_38 (z_at 41 _ [.int r14.1] rfl rfl rfl ?_)
        exact z_iret zemW rfl dX8_report_41
    · refine z_sub (lv' := [(0, .ref a0)]) [0] rfl ?_
      refine z_pc (pc' := 21) rfl ?_
      exact m_X8_report_j21 hW w1 a0 h0 

theorem m_X8_report {E : ZE} {S : Zs} (hW : zWF S) (w : Zw) (a0 : Nat) (h0 : zObj S a0 8) (a1 : Int32) (a2 : Int32) : ∀ i, f_X8_report S w a0 a1 a2 = some i → zMr E yX8_report cX8_report 3 ((some .int)) 1 0 0 [.ref a0, .int a1, .int a2] S w ((emW eI S) i) :=
  fun i hi => z_enter (by decide +kernel) (Nat.le_of_ble_eq_true rfl) (mw_X8_report hW w a0 h0 a1 a2 i hi)
/-! ParkingRobotModel.stored ()I : P, depth 0 -/
abbrev i_X8_stored : Zm := (yX8_stored.cls, cX8_stored, 1, (some .int), [], yX8_stored.name)
def f_X8_stored (S : Zs) (w : Zw) (a0 : Nat) : Option (Int32) :=
  if zin (1 : Int32) (zlen S (zr S a0 1)) = true then if zin (2 : Int32) (zlen S (zr S a0 1)) = true then some ((w (zr S a0 1) (zix (1 : Int32))) - (w (zr S a0 1) (zix (2 : Int32)))) else none else none
theorem mw_X8_stored {E : ZE} {S : Zs} (hW : zWF S) (w : Zw) (a0 : Nat) (h0 : zObj S a0 8) : zOk (E, i_X8_stored, 0) 0 0 S w 0 [(0, .ref a0)] [] (emP eI S w) (f_X8_stored S w a0) := by
  unfold f_X8_stored
  refine z_aload_n 0 dX8_stored_0 rfl (z_getR zc8 1 (by decide) rfl gw1108 h0 (zW_some hW h0 1 rfl) dX8_stored_1 (z_iconst dX8_stored_4 zi_1 ?_))
  refine z_chk (fun c1 => ?_)
  refine z_iald (zW_arr hW h0 1 0 rfl) c1 dX8_stored_5 (z_aload_n 0 dX8_stored_6 rfl (z_getR zc8 1 (by decide) rfl gw1108 h0 (zW_some hW h0 1 rfl) dX8_stored_7 (z_iconst dX8_stored_10 zi_2 ?_)))
  refine z_chk (fun c2 => ?_)
  refine z_iald (zW_arr hW h0 1 0 rfl) c2 dX8_stored_11 (z_isub dX8_stored_12 ?_)
  exact z_iret zemP rfl dX8_stored_13

theorem m_X8_stored {E : ZE} {S : Zs} (hW : zWF S) (w : Zw) (a0 : Nat) (h0 : zObj S a0 8) : ∀ i, f_X8_stored S w a0 = some i → zMr E yX8_stored cX8_stored 1 ((some .int)) 0 0 0 [.ref a0] S w ((emP eI S w) i) :=
  fun i hi => z_enter (by decide +kernel) (Nat.le_of_ble_eq_true rfl) (mw_X8_stored hW w a0 h0 i hi)
/-! ParkingRobotModel.restore ()I : W, depth 1 -/
abbrev i_X8_restore : Zm := (yX8_restore.cls, cX8_restore, 1, (some .int), [], yX8_restore.name)
def f_X8_restore (S : Zs) (w : Zw) (a0 : Nat) : Option (Int32 × Zw) :=
  zlet (zput w a0 0 (0 : Int32)) fun w1 => if (w1 a0 7) = 0 then (f_X8_fails S w1 a0 (1 : Int32)).bind fun r8 => some (r8.1, r8.2) else (f_X8_copies S w1 (zr S a0 4) (0 : Int32) (zr S a0 1) (0 : Int32)).bind fun r3 => zlet (zput r3.2 a0 6 (0 : Int32)) fun w5 => (f_X8_stored S w5 a0).bind fun v6 => some (v6, w5)
theorem mw_X8_restore {E : ZE} {S : Zs} (hW : zWF S) (w : Zw) (a0 : Nat) (h0 : zObj S a0 8) : zOk (E, i_X8_restore, 1) 0 0 S w 0 [(0, .ref a0)] [] (emW eI S) (f_X8_restore S w a0) := by
  unfold f_X8_restore
  refine z_aload_n 0 dX8_restore_0 rfl (z_iconst dX8_restore_1 zi_0 ?_)
  refine z_putI zc8 0 (by decide) (Or.inl rfl) rfl gw1107 h0 dX8_restore_2 (z_letw (fun w1 => ?_))
  refine z_aload_n 0 dX8_restore_5 rfl (z_getI zc8 7 (by decide) rfl gw1114 h0 dX8_restore_6 ?_)
  refine z_if_ne 18 dX8_restore_9 rfl (fun q2 => ?_) (fun q2 => ?_)
  · refine z_aload_n 0 dX8_restore_18 rfl (z_getR zc8 4 (by decide) rfl gw1111 h0 (zW_some hW h0 4 rfl) dX8_restore_19 (z_iconst dX8_restore_22 zi_0 (z_aload_n 0 dX8_restore_23 rfl (z_getR zc8 1 (by decide) rfl gw1108 h0 (zW_some hW h0 1 rfl) dX8_restore_24 (z_iconst dX8_restore_27 zi_0 ?_)))))
    refine z_bind (fun r3 hb4 => ?_)
    refine z_callS (kc' := 0) (ks' := 0) (v := none) (S1 := S) (w1 := r3.2) (st := []) [.ref (zr S a0 4), .int (0 : Int32), .ref (zr S a0 1), .int (0 : Int32)] (m_X8_copies hW w1 (zr S a0 4) (zW_arr hW h0 4 0 rfl) (0 : Int32) (zr S a0 1) (zW_arr hW h0 1 0 rfl) (0 : Int32) r3 hb4) zy_X8_copies gw1198 gw1197 (Nat.le_of_ble_eq_true rfl) (Nat.le_of_ble_eq_true rfl) (Nat.le_of_ble_eq_true rfl) (Nat.le_of_ble_eq_true rfl) (zal hW) rfl dX8_restore_28 (z_at 31 _ [] rfl rfl rfl ?_)
    refine z_aload_n 0 dX8_restore_31 rfl (z_iconst dX8_restore_32 zi_0 ?_)
    refine z_putI zc8 6 (by decide) (Or.inl rfl) rfl gw1113 h0 dX8_restore_33 (z_letw (fun w5 => ?_))
    refine z_aload_n 0 dX8_restore_36 rfl ?_
    refine z_bind (fun v6 hb7 => ?_)
    refine z_callV (kc' := 0) (ks' := 0) (v := (some (.int v6))) (S1 := S) (w1 := w5) (st := []) [] (m_X8_stored hW w5 a0 h0 v6 hb7) zc8 h0 zy_X8_stored gw1504 gp65 gw1502 (Nat.le_of_ble_eq_true rfl) (Nat.le_of_ble_eq_true rfl) (Nat.le_of_ble_eq_true rfl) (Nat.le_of_ble_eq_true rfl) (zal hW) rfl dX8_restore_37 (z_at 40 _ [.int v6] rfl rfl rfl ?_)
    exact z_iret zemW rfl dX8_restore_40
  · refine z_aload_n 0 dX8_restore_12 rfl (z_iconst dX8_restore_13 zi_1 ?_)
    refine z_bind (fun r8 hb9 => ?_)
    refine z_callV (kc' := 0) (ks' := 0) (v := (some (.int r8.1))) (S1 := S) (w1 := r8.2) (st := []) [.int (1 : Int32)] (m_X8_fails hW w1 a0 h0 (1 : Int32) r8 hb9) zc8 h0 zy_X8_fails gw1215 gp27 gw1213 (Nat.le_of_ble_eq_true rfl) (Nat.le_of_ble_eq_true rfl) (Nat.le_of_ble_eq_true rfl) (Nat.le_of_ble_eq_true rfl) (zal hW) rfl dX8_restore_14 (z_at 17 _ [.int r8.1] rfl rfl rfl ?_)
    exact z_iret zemW rfl dX8_restore_17

theorem m_X8_restore {E : ZE} {S : Zs} (hW : zWF S) (w : Zw) (a0 : Nat) (h0 : zObj S a0 8) : ∀ i, f_X8_restore S w a0 = some i → zMr E yX8_restore cX8_restore 1 ((some .int)) 1 0 0 [.ref a0] S w ((emW eI S) i) :=
  fun i hi => z_enter (by decide +kernel) (Nat.le_of_ble_eq_true rfl) (mw_X8_restore hW w a0 h0 i hi)
/-! ParkingRobotModel.retrieve (I)I : W, depth 11 -/
abbrev i_X8_retrieve : Zm := (yX8_retrieve.cls, cX8_retrieve, 2, (some .int), [], yX8_retrieve.name)
def f_X8_retrieve (S : Zs) (w : Zw) (a0 : Nat) (a1 : Int32) : Option (Int32 × Zw) :=
  (f_X8_begins S w a0).bind fun r1 => (f_X8_retrieves S r1.2 a0 a1).bind fun r3 => (f_X8_ends S r3.2 a0 r3.1).bind fun r5 => some (r5.1, r5.2)
theorem mw_X8_retrieve {E : ZE} {S : Zs} (hW : zWF S) (w : Zw) (a0 : Nat) (h0 : zObj S a0 8) (a1 : Int32) : zOk (E, i_X8_retrieve, 11) 0 0 S w 0 [(0, .ref a0), (1, .int a1)] [] (emW eI S) (f_X8_retrieve S w a0 a1) := by
  unfold f_X8_retrieve
  refine z_aload_n 0 dX8_retrieve_0 rfl ?_
  refine z_bind (fun r1 hb2 => ?_)
  refine z_callV (kc' := 0) (ks' := 0) (v := none) (S1 := S) (w1 := r1.2) (st := []) [] (m_X8_begins hW w a0 h0 r1 hb2) zc8 h0 zy_X8_begins gw1195 gp25 gw1193 (Nat.le_of_ble_eq_true rfl) (Nat.le_of_ble_eq_true rfl) (Nat.le_of_ble_eq_true rfl) (Nat.le_of_ble_eq_true rfl) (zal hW) rfl dX8_retrieve_1 (z_at 4 _ [] rfl rfl rfl ?_)
  refine z_aload_n 0 dX8_retrieve_4 rfl (z_aload_n 0 dX8_retrieve_5 rfl (z_iload_n 1 dX8_retrieve_6 rfl ?_))
  refine z_bind (fun r3 hb4 => ?_)
  refine z_callV (kc' := 0) (ks' := 0) (v := (some (.int r3.1))) (S1 := S) (w1 := r3.2) (st := [.ref a0]) [.int a1] (m_X8_retrieves hW r1.2 a0 h0 a1 r3 hb4) zc8 h0 zy_X8_retrieves gw1297 gp41 gw1295 (Nat.le_of_ble_eq_true rfl) (Nat.le_of_ble_eq_true rfl) (Nat.le_of_ble_eq_true rfl) (Nat.le_of_ble_eq_true rfl) (zal hW) rfl dX8_retrieve_7 (z_at 10 _ [.int r3.1, .ref a0] rfl rfl rfl ?_)
  refine z_bind (fun r5 hb6 => ?_)
  refine z_callV (kc' := 0) (ks' := 0) (v := (some (.int r5.1))) (S1 := S) (w1 := r5.2) (st := []) [.int r3.1] (m_X8_ends hW r3.2 a0 h0 r3.1 r5 hb6) zc8 h0 zy_X8_ends gw1289 gp40 gw1287 (Nat.le_of_ble_eq_true rfl) (Nat.le_of_ble_eq_true rfl) (Nat.le_of_ble_eq_true rfl) (Nat.le_of_ble_eq_true rfl) (zal hW) rfl dX8_retrieve_10 (z_at 13 _ [.int r5.1] rfl rfl rfl ?_)
  exact z_iret zemW rfl dX8_retrieve_13

theorem m_X8_retrieve {E : ZE} {S : Zs} (hW : zWF S) (w : Zw) (a0 : Nat) (h0 : zObj S a0 8) (a1 : Int32) : ∀ i, f_X8_retrieve S w a0 a1 = some i → zMr E yX8_retrieve cX8_retrieve 2 ((some .int)) 11 0 0 [.ref a0, .int a1] S w ((emW eI S) i) :=
  fun i hi => z_enter (by decide +kernel) (Nat.le_of_ble_eq_true rfl) (mw_X8_retrieve hW w a0 h0 a1 i hi)
/-! ParkingRobotModel.retrieveAll (J)I : W, depth 22 -/
abbrev i_X8_retrieveAll : Zm := (yX8_retrieveAll.cls, cX8_retrieveAll, 4, (some .int), [], yX8_retrieveAll.name)
def f_X8_retrieveAll_b29 (S : Zs) (x0 : Nat) (k : (Int32 × Zw) → Option (Int32 × Zw)) (x3 : Int32) (w : Zw) : Option (Int32 × Zw) :=
  if (w x0 16) ≤ x3 then (f_X8_goes S w x0).bind fun r10 => (f_X8_ends S r10.2 x0 (r10.2 x0 20)).bind fun r12 => some (r12.1, r12.2) else if zin x3 (zlen S (zr S x0 15)) = true then if zin x3 (zlen S (zr S x0 14)) = true then zlet (zput w (zr S x0 14) (zix x3) (w (zr S x0 15) (zix x3))) fun w16 => k ((x3 + (1 : Int32)), w16) else none else none
def f_X8_retrieveAll_l29 (S : Zs) (x0 : Nat) (a : Int32 × Zw) : Option (Int32 × Zw) :=
  zlp (fun k a => f_X8_retrieveAll_b29 S x0 k a.1 a.2) zFU a
theorem m_X8_retrieveAll_l29 {E : ZE} {S : Zs} (hW : zWF S) (x0 : Nat) (hx0 : zObj S x0 8) : ∀ a : Int32 × Zw, zOk (E, i_X8_retrieveAll, 22) 0 0 S a.2 29 [(0, .ref x0), (3, .int a.1)] [] (emW eI S) (f_X8_retrieveAll_l29 S x0 a) := by
  intro a
  refine z_lp (P := fun _ => True) (W9 := fun a : Int32 × Zw => a.2) (L9 := fun a : Int32 × Zw => [(0, .ref x0), (3, .int a.1)]) (T9 := fun _ => []) (fun k hk9 a _ => ?_) zFU a trivial
  have hk : ∀ a : Int32 × Zw, zOk (E, i_X8_retrieveAll, 22) 0 0 S a.2 29 [(0, .ref x0), (3, .int a.1)] [] (emW eI S) (k a) := fun a => hk9 a trivial
  clear hk9
  obtain ⟨x3, w⟩ := a
  show zOk (E, i_X8_retrieveAll, 22) 0 0 S w 29 [(0, .ref x0), (3, .int x3)] [] (emW eI S) (f_X8_retrieveAll_b29 S x0 k x3 w)
  unfold f_X8_retrieveAll_b29
  refine z_iload_n 1 dX8_retrieveAll_29 rfl (z_aload_n 0 dX8_retrieveAll_30 rfl (z_getI zc8 16 (by decide) rfl gw1123 hx0 dX8_retrieveAll_31 ?_))
  refine z_icmp_ge 55 dX8_retrieveAll_34 rfl (fun q9 => ?_) (fun q9 => ?_)
  · refine z_aload_n 0 dX8_retrieveAll_55 rfl ?_
    refine z_bind (fun r10 hb11 => ?_)
    refine z_callV (kc' := 0) (ks' := 0) (v := (some (.int r10.1))) (S1 := S) (w1 := r10.2) (st := []) [] (m_X8_goes hW w x0 hx0 r10 hb11) zc8 hx0 zy_X8_goes gw1400 gp56 gw1398 (Nat.le_of_ble_eq_true rfl) (Nat.le_of_ble_eq_true rfl) (Nat.le_of_ble_eq_true rfl) (Nat.le_of_ble_eq_true rfl) (zal hW) rfl dX8_retrieveAll_56 (z_at 59 _ [.int r10.1] rfl rfl rfl ?_)
    refine z_istore_n (lv' := [(3, .int r10.1), (0, .ref x0)]) dX8_retrieveAll_59 (Nat.le_of_ble_eq_true rfl) rfl (z_aload_n 1 dX8_retrieveAll_60 rfl (z_aload_n 1 dX8_retrieveAll_61 rfl (z_getI zc8 20 (by decide) rfl gw1127 hx0 dX8_retrieveAll_62 ?_)))
    refine z_bind (fun r12 hb13 => ?_)
    refine z_callV (kc' := 0) (ks' := 0) (v := (some (.int r12.1))) (S1 := S) (w1 := r12.2) (st := []) [.int (r10.2 x0 20)] (m_X8_ends hW r10.2 x0 hx0 (r10.2 x0 20) r12 hb13) zc8 hx0 zy_X8_ends gw1289 gp40 gw1287 (Nat.le_of_ble_eq_true rfl) (Nat.le_of_ble_eq_true rfl) (Nat.le_of_ble_eq_true rfl) (Nat.le_of_ble_eq_true rfl) (zal hW) rfl dX8_retrieveAll_65 (z_at 68 _ [.int r12.1] rfl rfl rfl ?_)
    exact z_iret zemW rfl dX8_retrieveAll_68
  · refine z_aload_n 0 dX8_retrieveAll_37 rfl (z_getR zc8 14 (by decide) rfl gw1121 hx0 (zW_some hW hx0 14 rfl) dX8_retrieveAll_38 (z_iload_n 1 dX8_retrieveAll_41 rfl (z_aload_n 0 dX8_retrieveAll_42 rfl (z_getR zc8 15 (by decide) rfl gw1122 hx0 (zW_some hW hx0 15 rfl) dX8_retrieveAll_43 (z_iload_n 1 dX8_retrieveAll_46 rfl ?_)))))
    refine z_chk (fun c14 => ?_)
    refine z_iald (zW_arr hW hx0 15 0 rfl) c14 dX8_retrieveAll_47 ?_
    refine z_chk (fun c15 => ?_)
    refine z_iast (zW_arr hW hx0 14 0 rfl) c15 dX8_retrieveAll_48 (z_letw (fun w16 => ?_))
    refine z_iinc (v := (x3 + (1 : Int32))) (lv' := [(3, .int (x3 + (1 : Int32))), (0, .ref x0)]) 1 dX8_retrieveAll_49 rfl (zi_inc _ zi_1) (Nat.le_of_ble_eq_true rfl) rfl (z_goto 29 dX8_retrieveAll_52 rfl ?_)
    refine z_sub (lv' := [(0, .ref x0), (3, .int (x3 + (1 : Int32)))]) [1, 0] rfl ?_
    refine z_pc (pc' := 29) rfl ?_
    exact hk ((x3 + (1 : Int32)), w16)

def f_X8_retrieveAll (S : Zs) (w : Zw) (a0 : Nat) (a1 : Int64) : Option (Int32 × Zw) :=
  (f_X8_begins S w a0).bind fun r1 => (f_X8_isSet S r1.2 a0 a1).bind fun r3 => if r3.1 = 0 then some ((0 : Int32), r3.2) else (f_X8_isFound S r3.2 a0).bind fun r6 => if r6.1 = 0 then (f_X8_fails S r6.2 a0 (3 : Int32)).bind fun r17 => some (r17.1, r17.2) else f_X8_retrieveAll_l29 S a0 ((0 : Int32), r6.2)
theorem mw_X8_retrieveAll {E : ZE} {S : Zs} (hW : zWF S) (w : Zw) (a0 : Nat) (h0 : zObj S a0 8) (a1 : Int64) : zOk (E, i_X8_retrieveAll, 22) 0 0 S w 0 [(0, .ref a0), (1, .long a1)] [] (emW eI S) (f_X8_retrieveAll S w a0 a1) := by
  unfold f_X8_retrieveAll
  refine z_aload_n 0 dX8_retrieveAll_0 rfl ?_
  refine z_bind (fun r1 hb2 => ?_)
  refine z_callV (kc' := 0) (ks' := 0) (v := none) (S1 := S) (w1 := r1.2) (st := []) [] (m_X8_begins hW w a0 h0 r1 hb2) zc8 h0 zy_X8_begins gw1195 gp25 gw1193 (Nat.le_of_ble_eq_true rfl) (Nat.le_of_ble_eq_true rfl) (Nat.le_of_ble_eq_true rfl) (Nat.le_of_ble_eq_true rfl) (zal hW) rfl dX8_retrieveAll_1 (z_at 4 _ [] rfl rfl rfl ?_)
  refine z_aload_n 0 dX8_retrieveAll_4 rfl (z_lload_n 1 dX8_retrieveAll_5 rfl ?_)
  refine z_bind (fun r3 hb4 => ?_)
  refine z_callV (kc' := 0) (ks' := 0) (v := (some (.int r3.1))) (S1 := S) (w1 := r3.2) (st := []) [.long a1] (m_X8_isSet hW r1.2 a0 h0 a1 r3 hb4) zc8 h0 zy_X8_isSet gw1383 gp52 gw1381 (Nat.le_of_ble_eq_true rfl) (Nat.le_of_ble_eq_true rfl) (Nat.le_of_ble_eq_true rfl) (Nat.le_of_ble_eq_true rfl) (zal hW) rfl dX8_retrieveAll_6 (z_at 9 _ [.int r3.1] rfl rfl rfl ?_)
  refine z_if_ne 14 dX8_retrieveAll_9 rfl (fun q5 => ?_) (fun q5 => ?_)
  · refine z_aload_n 0 dX8_retrieveAll_14 rfl ?_
    refine z_bind (fun r6 hb7 => ?_)
    refine z_callV (kc' := 0) (ks' := 0) (v := (some (.int r6.1))) (S1 := S) (w1 := r6.2) (st := []) [] (m_X8_isFound hW r3.2 a0 h0 r6 hb7) zc8 h0 zy_X8_isFound gw1388 gp53 gw1386 (Nat.le_of_ble_eq_true rfl) (Nat.le_of_ble_eq_true rfl) (Nat.le_of_ble_eq_true rfl) (Nat.le_of_ble_eq_true rfl) (zal hW) rfl dX8_retrieveAll_15 (z_at 18 _ [.int r6.1] rfl rfl rfl ?_)
    refine z_if_ne 27 dX8_retrieveAll_18 rfl (fun q8 => ?_) (fun q8 => ?_)
    · refine z_iconst dX8_retrieveAll_27 zi_0 (z_istore_n (lv' := [(3, .int (0 : Int32)), (0, .ref a0), (1, .long a1)]) dX8_retrieveAll_28 (Nat.le_of_ble_eq_true rfl) rfl ?_)
      refine z_sub (lv' := [(0, .ref a0), (3, .int (0 : Int32))]) [1, 0] rfl ?_
      refine z_pc (pc' := 29) rfl ?_
      exact m_X8_retrieveAll_l29 hW a0 h0 ((0 : Int32), r6.2)
    · refine z_aload_n 0 dX8_retrieveAll_21 rfl (z_iconst dX8_retrieveAll_22 zi_3 ?_)
      refine z_bind (fun r17 hb18 => ?_)
      refine z_callV (kc' := 0) (ks' := 0) (v := (some (.int r17.1))) (S1 := S) (w1 := r17.2) (st := []) [.int (3 : Int32)] (m_X8_fails hW r6.2 a0 h0 (3 : Int32) r17 hb18) zc8 h0 zy_X8_fails gw1215 gp27 gw1213 (Nat.le_of_ble_eq_true rfl) (Nat.le_of_ble_eq_true rfl) (Nat.le_of_ble_eq_true rfl) (Nat.le_of_ble_eq_true rfl) (zal hW) rfl dX8_retrieveAll_23 (z_at 26 _ [.int r17.1] rfl rfl rfl ?_)
      exact z_iret zemW rfl dX8_retrieveAll_26
  · refine z_iconst dX8_retrieveAll_12 zi_0 ?_
    exact z_iret zemW rfl dX8_retrieveAll_13

theorem m_X8_retrieveAll {E : ZE} {S : Zs} (hW : zWF S) (w : Zw) (a0 : Nat) (h0 : zObj S a0 8) (a1 : Int64) : ∀ i, f_X8_retrieveAll S w a0 a1 = some i → zMr E yX8_retrieveAll cX8_retrieveAll 4 ((some .int)) 22 0 0 [.ref a0, .long a1] S w ((emW eI S) i) :=
  fun i hi => z_enter (by decide +kernel) (Nat.le_of_ble_eq_true rfl) (mw_X8_retrieveAll hW w a0 h0 a1 i hi)
/-! ParkingRobotModel.save ()I : W, depth 1 -/
abbrev i_X8_save : Zm := (yX8_save.cls, cX8_save, 1, (some .int), [], yX8_save.name)
def f_X8_save (S : Zs) (w : Zw) (a0 : Nat) : Option (Int32 × Zw) :=
  (f_X8_copies S w (zr S a0 1) (0 : Int32) (zr S a0 4) (0 : Int32)).bind fun r1 => zlet (zput r1.2 a0 7 (1 : Int32)) fun w3 => (f_X8_stored S w3 a0).bind fun v4 => some (v4, w3)
theorem mw_X8_save {E : ZE} {S : Zs} (hW : zWF S) (w : Zw) (a0 : Nat) (h0 : zObj S a0 8) : zOk (E, i_X8_save, 1) 0 0 S w 0 [(0, .ref a0)] [] (emW eI S) (f_X8_save S w a0) := by
  unfold f_X8_save
  refine z_aload_n 0 dX8_save_0 rfl (z_getR zc8 1 (by decide) rfl gw1108 h0 (zW_some hW h0 1 rfl) dX8_save_1 (z_iconst dX8_save_4 zi_0 (z_aload_n 0 dX8_save_5 rfl (z_getR zc8 4 (by decide) rfl gw1111 h0 (zW_some hW h0 4 rfl) dX8_save_6 (z_iconst dX8_save_9 zi_0 ?_)))))
  refine z_bind (fun r1 hb2 => ?_)
  refine z_callS (kc' := 0) (ks' := 0) (v := none) (S1 := S) (w1 := r1.2) (st := []) [.ref (zr S a0 1), .int (0 : Int32), .ref (zr S a0 4), .int (0 : Int32)] (m_X8_copies hW w (zr S a0 1) (zW_arr hW h0 1 0 rfl) (0 : Int32) (zr S a0 4) (zW_arr hW h0 4 0 rfl) (0 : Int32) r1 hb2) zy_X8_copies gw1198 gw1197 (Nat.le_of_ble_eq_true rfl) (Nat.le_of_ble_eq_true rfl) (Nat.le_of_ble_eq_true rfl) (Nat.le_of_ble_eq_true rfl) (zal hW) rfl dX8_save_10 (z_at 13 _ [] rfl rfl rfl ?_)
  refine z_aload_n 0 dX8_save_13 rfl (z_iconst dX8_save_14 zi_1 ?_)
  refine z_putI zc8 7 (by decide) (Or.inr ⟨rfl, Or.inr rfl⟩) rfl gw1114 h0 dX8_save_15 (z_letw (fun w3 => ?_))
  refine z_aload_n 0 dX8_save_18 rfl ?_
  refine z_bind (fun v4 hb5 => ?_)
  refine z_callV (kc' := 0) (ks' := 0) (v := (some (.int v4))) (S1 := S) (w1 := w3) (st := []) [] (m_X8_stored hW w3 a0 h0 v4 hb5) zc8 h0 zy_X8_stored gw1504 gp65 gw1502 (Nat.le_of_ble_eq_true rfl) (Nat.le_of_ble_eq_true rfl) (Nat.le_of_ble_eq_true rfl) (Nat.le_of_ble_eq_true rfl) (zal hW) rfl dX8_save_19 (z_at 22 _ [.int v4] rfl rfl rfl ?_)
  exact z_iret zemW rfl dX8_save_22

theorem m_X8_save {E : ZE} {S : Zs} (hW : zWF S) (w : Zw) (a0 : Nat) (h0 : zObj S a0 8) : ∀ i, f_X8_save S w a0 = some i → zMr E yX8_save cX8_save 1 ((some .int)) 1 0 0 [.ref a0] S w ((emW eI S) i) :=
  fun i hi => z_enter (by decide +kernel) (Nat.le_of_ble_eq_true rfl) (mw_X8_save hW w a0 h0 i hi)
/-! ParkingRobotModel.setClosed (IZ)Z : W, depth 3 -/
abbrev i_X8_setClosed : Zm := (yX8_setClosed.cls, cX8_setClosed, 3, (some .boolean), [], yX8_setClosed.name)
def f_X8_setClosed_j16 (S : Zs) (w : Zw) (y0 : Int32) (y1 : Int32) (y2 : Nat) (y3 : Nat) : Option (Int32 × Zw) :=
  (f_X8_closes S w y2 y1 y0).bind fun r4 => (f_X8_ends S r4.2 y3 r4.1).bind fun r6 => if r6.1 = (1 : Int32) then some ((1 : Int32), r6.2) else some ((0 : Int32), r6.2)
theorem m_X8_setClosed_j16 {E : ZE} {S : Zs} (hW : zWF S) (w : Zw) (y0 : Int32) (y1 : Int32) (y2 : Nat) (hy2 : zObj S y2 8) (y3 : Nat) (hy3 : zObj S y3 8) : zOk (E, i_X8_setClosed, 3) 0 0 S w 16 [] [.int y0, .int y1, .ref y2, .ref y3] (emW eI S) (f_X8_setClosed_j16 S w y0 y1 y2 y3) := by
  unfold f_X8_setClosed_j16
  refine z_bind (fun r4 hb5 => ?_)
  refine z_callV (kc' := 0) (ks' := 0) (v := (some (.int r4.1))) (S1 := S) (w1 := r4.2) (st := [.ref y3]) [.int y1, .int y0] (m_X8_closes hW w y2 hy2 y1 y0 r4 hb5) zc8 hy2 zy_X8_closes gw1349 gp50 gw1347 (Nat.le_of_ble_eq_true rfl) (Nat.le_of_ble_eq_true rfl) (Nat.le_of_ble_eq_true rfl) (Nat.le_of_ble_eq_true rfl) (zal hW) rfl dX8_setClosed_16 (z_at 19 _ [.int r4.1, .ref y3] rfl rfl rfl ?_)
  refine z_bind (fun r6 hb7 => ?_)
  refine z_callV (kc' := 0) (ks' := 0) (v := (some (.int r6.1))) (S1 := S) (w1 := r6.2) (st := []) [.int r4.1] (m_X8_ends hW r4.2 y3 hy3 r4.1 r6 hb7) zc8 hy3 zy_X8_ends gw1289 gp40 gw1287 (Nat.le_of_ble_eq_true rfl) (Nat.le_of_ble_eq_true rfl) (Nat.le_of_ble_eq_true rfl) (Nat.le_of_ble_eq_true rfl) (zal hW) rfl dX8_setClosed_19 (z_at 22 _ [.int r6.1] rfl rfl rfl ?_)
  refine z_iconst dX8_setClosed_22 zi_1 ?_
  refine z_icmp_ne 30 dX8_setClosed_23 rfl (fun q8 => ?_) (fun q8 => ?_)
  · refine z_iconst dX8_setClosed_30 zi_0 ?_
    exact z_zret zemW rfl rfl dX8_setClosed_31
  · refine z_iconst dX8_setClosed_26 zi_1 (z_goto 31 dX8_setClosed_27 rfl ?_)
    exact z_zret zemW rfl rfl dX8_setClosed_31

def f_X8_setClosed (S : Zs) (w : Zw) (a0 : Nat) (a1 : Int32) (a2 : Int32) : Option (Int32 × Zw) :=
  (f_X8_begins S w a0).bind fun r1 => if a2 = 0 then f_X8_setClosed_j16 S r1.2 (0 : Int32) a1 a0 a0  else f_X8_setClosed_j16 S r1.2 (1 : Int32) a1 a0 a0 
theorem mw_X8_setClosed {E : ZE} {S : Zs} (hW : zWF S) (w : Zw) (a0 : Nat) (h0 : zObj S a0 8) (a1 : Int32) (a2 : Int32) : zOk (E, i_X8_setClosed, 3) 0 0 S w 0 [(0, .ref a0), (1, .int a1), (2, .int a2)] [] (emW eI S) (f_X8_setClosed S w a0 a1 a2) := by
  unfold f_X8_setClosed
  refine z_aload_n 0 dX8_setClosed_0 rfl ?_
  refine z_bind (fun r1 hb2 => ?_)
  refine z_callV (kc' := 0) (ks' := 0) (v := none) (S1 := S) (w1 := r1.2) (st := []) [] (m_X8_begins hW w a0 h0 r1 hb2) zc8 h0 zy_X8_begins gw1195 gp25 gw1193 (Nat.le_of_ble_eq_true rfl) (Nat.le_of_ble_eq_true rfl) (Nat.le_of_ble_eq_true rfl) (Nat.le_of_ble_eq_true rfl) (zal hW) rfl dX8_setClosed_1 (z_at 4 _ [] rfl rfl rfl ?_)
  refine z_aload_n 0 dX8_setClosed_4 rfl (z_aload_n 0 dX8_setClosed_5 rfl (z_iload_n 1 dX8_setClosed_6 rfl (z_iload_n 2 dX8_setClosed_7 rfl ?_)))
  refine z_if_eq 15 dX8_setClosed_8 rfl (fun q3 => ?_) (fun q3 => ?_)
  · refine z_iconst dX8_setClosed_15 zi_0 ?_
    refine z_sub (lv' := []) [] rfl ?_
    refine z_pc (pc' := 16) rfl ?_
    exact m_X8_setClosed_j16 hW r1.2 (0 : Int32) a1 a0 h0 a0 h0 
  · refine z_iconst dX8_setClosed_11 zi_1 (z_goto 16 dX8_setClosed_12 rfl ?_)
    refine z_sub (lv' := []) [] rfl ?_
    refine z_pc (pc' := 16) rfl ?_
    exact m_X8_setClosed_j16 hW r1.2 (1 : Int32) a1 a0 h0 a0 h0 

theorem m_X8_setClosed {E : ZE} {S : Zs} (hW : zWF S) (w : Zw) (a0 : Nat) (h0 : zObj S a0 8) (a1 : Int32) (a2 : Int32) : ∀ i, f_X8_setClosed S w a0 a1 a2 = some i → zMr E yX8_setClosed cX8_setClosed 3 ((some .boolean)) 3 0 0 [.ref a0, .int a1, .int a2] S w ((emW eI S) i) :=
  fun i hi => z_enter (by decide +kernel) (Nat.le_of_ble_eq_true rfl) (mw_X8_setClosed hW w a0 h0 a1 a2 i hi)
/-! ParkingRobotModel.store (II)I : W, depth 10 -/
abbrev i_X8_store : Zm := (yX8_store.cls, cX8_store, 3, (some .int), [], yX8_store.name)
def f_X8_store (S : Zs) (w : Zw) (a0 : Nat) (a1 : Int32) (a2 : Int32) : Option (Int32 × Zw) :=
  (f_X8_begins S w a0).bind fun r1 => (f_X8_stores S r1.2 a0 a1 a2).bind fun r3 => (f_X8_ends S r3.2 a0 r3.1).bind fun r5 => some (r5.1, r5.2)
theorem mw_X8_store {E : ZE} {S : Zs} (hW : zWF S) (w : Zw) (a0 : Nat) (h0 : zObj S a0 8) (a1 : Int32) (a2 : Int32) : zOk (E, i_X8_store, 10) 0 0 S w 0 [(0, .ref a0), (1, .int a1), (2, .int a2)] [] (emW eI S) (f_X8_store S w a0 a1 a2) := by
  unfold f_X8_store
  refine z_aload_n 0 dX8_store_0 rfl ?_
  refine z_bind (fun r1 hb2 => ?_)
  refine z_callV (kc' := 0) (ks' := 0) (v := none) (S1 := S) (w1 := r1.2) (st := []) [] (m_X8_begins hW w a0 h0 r1 hb2) zc8 h0 zy_X8_begins gw1195 gp25 gw1193 (Nat.le_of_ble_eq_true rfl) (Nat.le_of_ble_eq_true rfl) (Nat.le_of_ble_eq_true rfl) (Nat.le_of_ble_eq_true rfl) (zal hW) rfl dX8_store_1 (z_at 4 _ [] rfl rfl rfl ?_)
  refine z_aload_n 0 dX8_store_4 rfl (z_aload_n 0 dX8_store_5 rfl (z_iload_n 1 dX8_store_6 rfl (z_iload_n 2 dX8_store_7 rfl ?_)))
  refine z_bind (fun r3 hb4 => ?_)
  refine z_callV (kc' := 0) (ks' := 0) (v := (some (.int r3.1))) (S1 := S) (w1 := r3.2) (st := [.ref a0]) [.int a1, .int a2] (m_X8_stores hW r1.2 a0 h0 a1 a2 r3 hb4) zc8 h0 zy_X8_stores gw1202 gp26 gw1200 (Nat.le_of_ble_eq_true rfl) (Nat.le_of_ble_eq_true rfl) (Nat.le_of_ble_eq_true rfl) (Nat.le_of_ble_eq_true rfl) (zal hW) rfl dX8_store_8 (z_at 11 _ [.int r3.1, .ref a0] rfl rfl rfl ?_)
  refine z_bind (fun r5 hb6 => ?_)
  refine z_callV (kc' := 0) (ks' := 0) (v := (some (.int r5.1))) (S1 := S) (w1 := r5.2) (st := []) [.int r3.1] (m_X8_ends hW r3.2 a0 h0 r3.1 r5 hb6) zc8 h0 zy_X8_ends gw1289 gp40 gw1287 (Nat.le_of_ble_eq_true rfl) (Nat.le_of_ble_eq_true rfl) (Nat.le_of_ble_eq_true rfl) (Nat.le_of_ble_eq_true rfl) (zal hW) rfl dX8_store_11 (z_at 14 _ [.int r5.1] rfl rfl rfl ?_)
  exact z_iret zemW rfl dX8_store_14

theorem m_X8_store {E : ZE} {S : Zs} (hW : zWF S) (w : Zw) (a0 : Nat) (h0 : zObj S a0 8) (a1 : Int32) (a2 : Int32) : ∀ i, f_X8_store S w a0 a1 a2 = some i → zMr E yX8_store cX8_store 3 ((some .int)) 10 0 0 [.ref a0, .int a1, .int a2] S w ((emW eI S) i) :=
  fun i hi => z_enter (by decide +kernel) (Nat.le_of_ble_eq_true rfl) (mw_X8_store hW w a0 h0 a1 a2 i hi)
/-! ParkingRobotModel.thrown ()I : T, depth 0 -/
abbrev i_X8_thrown : Zm := (yX8_thrown.cls, cX8_thrown, 1, (some .int), [], yX8_thrown.name)
def f_X8_thrown (S : Zs) (w : Zw) (a0 : Nat) : Int32 :=
  (w a0 0)
theorem mw_X8_thrown {E : ZE} {S : Zs} (hW : zWF S) (w : Zw) (a0 : Nat) (h0 : zObj S a0 8) : zOk (E, i_X8_thrown, 0) 0 0 S w 0 [(0, .ref a0)] [] (emP eI S w) (some (f_X8_thrown S w a0)) := by
  unfold f_X8_thrown
  refine z_aload_n 0 dX8_thrown_0 rfl (z_getI zc8 0 (by decide) rfl gw1107 h0 dX8_thrown_1 ?_)
  exact z_iret zemP rfl dX8_thrown_4

theorem m_X8_thrown {E : ZE} {S : Zs} (hW : zWF S) (w : Zw) (a0 : Nat) (h0 : zObj S a0 8) : zMr E yX8_thrown cX8_thrown 1 ((some .int)) 0 0 0 [.ref a0] S w (.inl (eI (f_X8_thrown S w a0)), S, w) :=
  z_enter (by decide +kernel) (Nat.le_of_ble_eq_true rfl) (mw_X8_thrown hW w a0 h0 _ rfl)
/-! ParkingRobotModel.tidy ()I : W, depth 9 -/
abbrev i_X8_tidy : Zm := (yX8_tidy.cls, cX8_tidy, 6, (some .int), [], yX8_tidy.name)
def f_X8_tidy_b87 (S : Zs) (x0 : Nat) (x1 : Int32) (k : (Int32 × Int32 × Zw) → Option (Int32 × Zw)) (x2 : Int32) (x3 : Int32) (w : Zw) : Option (Int32 × Zw) :=
  if x1 ≤ x3 then (f_X8_ends S w x0 x2).bind fun r5 => some (r5.1, r5.2) else if zin x3 (zlen S (zr S x0 21)) = true then (f_X8_isWrong S w x0 (w (zr S x0 21) (zix x3))).bind fun v8 => if v8 = 0 then k (x2, (x3 + (1 : Int32)), w) else if zin x3 (zlen S (zr S x0 21)) = true then if zin (((79 : Int32) + (w (zr S x0 21) (zix x3))) - (1 : Int32)) (zlen S (zr S x0 1)) = true then zlet (w (zr S x0 1) (zix (((79 : Int32) + (w (zr S x0 21) (zix x3))) - (1 : Int32)))) fun z13 => (f_X8_of S w x0 z13 (0 : Int32)).bind fun v14 => (f_X8_pickup S w x0 z13).bind fun v16 => (f_X8_bayOf S w x0 z13).bind fun v18 => (f_X8_chosen S w x0 v14 v16 v18).bind fun v20 => if v20 < 0 then k (x2, (x3 + (1 : Int32)), w) else (f_X8_pickup S w x0 z13).bind fun v23 => (f_X8_isBad S w x0 v20 v23).bind fun v25 => if v25 = 0 then (f_X8_moves S w x0 z13 v20).bind fun r28 => k ((x2 + (1 : Int32)), (x3 + (1 : Int32)), r28.2) else k (x2, (x3 + (1 : Int32)), w) else none else none else none
def f_X8_tidy_l87 (S : Zs) (x0 : Nat) (x1 : Int32) (a : Int32 × Int32 × Zw) : Option (Int32 × Zw) :=
  zlp (fun k a => f_X8_tidy_b87 S x0 x1 k a.1 a.2.1 a.2.2) zFU a
theorem m_X8_tidy_l87 {E : ZE} {S : Zs} (hW : zWF S) (x0 : Nat) (hx0 : zObj S x0 8) (x1 : Int32) : ∀ a : Int32 × Int32 × Zw, zOk (E, i_X8_tidy, 9) 0 0 S a.2.2 87 [(0, .ref x0), (1, .int x1), (2, .int a.1), (3, .int a.2.1)] [] (emW eI S) (f_X8_tidy_l87 S x0 x1 a) := by
  intro a
  refine z_lp (P := fun _ => True) (W9 := fun a : Int32 × Int32 × Zw => a.2.2) (L9 := fun a : Int32 × Int32 × Zw => [(0, .ref x0), (1, .int x1), (2, .int a.1), (3, .int a.2.1)]) (T9 := fun _ => []) (fun k hk9 a _ => ?_) zFU a trivial
  have hk : ∀ a : Int32 × Int32 × Zw, zOk (E, i_X8_tidy, 9) 0 0 S a.2.2 87 [(0, .ref x0), (1, .int x1), (2, .int a.1), (3, .int a.2.1)] [] (emW eI S) (k a) := fun a => hk9 a trivial
  clear hk9
  obtain ⟨x2, x3, w⟩ := a
  show zOk (E, i_X8_tidy, 9) 0 0 S w 87 [(0, .ref x0), (1, .int x1), (2, .int x2), (3, .int x3)] [] (emW eI S) (f_X8_tidy_b87 S x0 x1 k x2 x3 w)
  unfold f_X8_tidy_b87
  refine z_iload_n 3 dX8_tidy_87 rfl (z_iload_n 1 dX8_tidy_88 rfl ?_)
  refine z_icmp_ge 191 dX8_tidy_89 rfl (fun q4 => ?_) (fun q4 => ?_)
  · refine z_aload_n 0 dX8_tidy_191 rfl (z_iload_n 2 dX8_tidy_192 rfl ?_)
    refine z_bind (fun r5 hb6 => ?_)
    refine z_callV (kc' := 0) (ks' := 0) (v := (some (.int r5.1))) (S1 := S) (w1 := r5.2) (st := []) [.int x2] (m_X8_ends hW w x0 hx0 x2 r5 hb6) zc8 hx0 zy_X8_ends gw1289 gp40 gw1287 (Nat.le_of_ble_eq_true rfl) (Nat.le_of_ble_eq_true rfl) (Nat.le_of_ble_eq_true rfl) (Nat.le_of_ble_eq_true rfl) (zal hW) rfl dX8_tidy_193 (z_at 196 _ [.int r5.1] rfl rfl rfl ?_)
    exact z_iret zemW rfl dX8_tidy_196
  · refine z_aload_n 0 dX8_tidy_92 rfl (z_aload_n 0 dX8_tidy_93 rfl (z_getR zc8 21 (by decide) rfl gw1128 hx0 (zW_some hW hx0 21 rfl) dX8_tidy_94 (z_iload_n 3 dX8_tidy_97 rfl ?_)))
    refine z_chk (fun c7 => ?_)
    refine z_iald (zW_arr hW hx0 21 0 rfl) c7 dX8_tidy_98 ?_
    refine z_bind (fun v8 hb9 => ?_)
    refine z_callV (kc' := 0) (ks' := 0) (v := (some (.int v8))) (S1 := S) (w1 := w) (st := []) [.int (w (zr S x0 21) (zix x3))] (m_X8_isWrong hW w x0 hx0 (w (zr S x0 21) (zix x3)) v8 hb9) zc8 hx0 zy_X8_isWrong gw1424 gp57 gw1422 (Nat.le_of_ble_eq_true rfl) (Nat.le_of_ble_eq_true rfl) (Nat.le_of_ble_eq_true rfl) (Nat.le_of_ble_eq_true rfl) (zal hW) rfl dX8_tidy_99 (z_at 102 _ [.int v8] rfl rfl rfl ?_)
    refine z_if_ne 108 dX8_tidy_102 rfl (fun q10 => ?_) (fun q10 => ?_)
    · refine z_aload_n 0 dX8_tidy_108 rfl (z_getR zc8 1 (by decide) rfl gw1108 hx0 (zW_some hW hx0 1 rfl) dX8_tidy_109 (z_bipush dX8_tidy_112 zb_79 (z_aload_n 0 dX8_tidy_114 rfl (z_getR zc8 21 (by decide) rfl gw1128 hx0 (zW_some hW hx0 21 rfl) dX8_tidy_115 (z_iload_n 3 dX8_tidy_118 rfl ?_)))))
      refine z_chk (fun c11 => ?_)
      refine z_iald (zW_arr hW hx0 21 0 rfl) c11 dX8_tidy_119 (z_iadd dX8_tidy_120 (z_iconst dX8_tidy_121 zi_1 (z_isub dX8_tidy_122 ?_)))
      refine z_chk (fun c12 => ?_)
      refine z_iald (zW_arr hW hx0 1 0 rfl) c12 dX8_tidy_123 ?_
      refine z_let (a := (w (zr S x0 1) (zix (((79 : Int32) + (w (zr S x0 21) (zix x3))) - (1 : Int32))))) (fun z13 => [(0, .ref x0), (1, .int x1), (2, .int x2), (3, .int x3)]) (fun z13 => .int z13 :: []) (fun z13 => ?_)
      refine z_istore (lv' := [(4, .int z13), (0, .ref x0), (1, .int x1), (2, .int x2), (3, .int x3)]) dX8_tidy_124 (Nat.le_of_ble_eq_true rfl) rfl (z_aload_n 1 dX8_tidy_126 rfl (z_aload_n 1 dX8_tidy_127 rfl (z_iload 0 dX8_tidy_128 rfl (z_iconst dX8_tidy_130 zi_0 ?_))))
      refine z_bind (fun v14 hb15 => ?_)
      refine z_callV (kc' := 0) (ks' := 0) (v := (some (.int v14))) (S1 := S) (w1 := w) (st := [.ref x0]) [.int z13, .int (0 : Int32)] (m_X8_of hW w x0 hx0 z13 (0 : Int32) v14 hb15) zc8 hx0 zy_X8_of gw1255 gp33 gw1253 (Nat.le_of_ble_eq_true rfl) (Nat.le_of_ble_eq_true rfl) (Nat.le_of_ble_eq_true rfl) (Nat.le_of_ble_eq_true rfl) (zal hW) rfl dX8_tidy_131 (z_at 134 _ [.int v14, .ref x0] rfl rfl rfl ?_)
      refine z_aload_n 1 dX8_tidy_134 rfl (z_iload 0 dX8_tidy_135 rfl ?_)
      refine z_bind (fun v16 hb17 => ?_)
      refine z_callV (kc' := 0) (ks' := 0) (v := (some (.int v16))) (S1 := S) (w1 := w) (st := [.int v14, .ref x0]) [.int z13] (m_X8_pickup hW w x0 hx0 z13 v16 hb17) zc8 hx0 zy_X8_pickup gw1251 gp32 gw1249 (Nat.le_of_ble_eq_true rfl) (Nat.le_of_ble_eq_true rfl) (Nat.le_of_ble_eq_true rfl) (Nat.le_of_ble_eq_true rfl) (zal hW) rfl dX8_tidy_137 (z_at 140 _ [.int v16, .int v14, .ref x0] rfl rfl rfl ?_)
      refine z_aload_n 1 dX8_tidy_140 rfl (z_iload 0 dX8_tidy_141 rfl ?_)
      refine z_bind (fun v18 hb19 => ?_)
      refine z_callV (kc' := 0) (ks' := 0) (v := (some (.int v18))) (S1 := S) (w1 := w) (st := [.int v16, .int v14, .ref x0]) [.int z13] (m_X8_bayOf hW w x0 hx0 z13 v18 hb19) zc8 hx0 zy_X8_bayOf gw1305 gp43 gw1303 (Nat.le_of_ble_eq_true rfl) (Nat.le_of_ble_eq_true rfl) (Nat.le_of_ble_eq_true rfl) (Nat.le_of_ble_eq_true rfl) (zal hW) rfl dX8_tidy_143 (z_at 146 _ [.int v18, .int v16, .int v14, .ref x0] rfl rfl rfl ?_)
      refine z_bind (fun v20 hb21 => ?_)
      refine z_callV (kc' := 0) (ks' := 0) (v := (some (.int v20))) (S1 := S) (w1 := w) (st := []) [.int v14, .int v16, .int v18] (m_X8_chosen hW w x0 hx0 v14 v16 v18 v20 hb21) zc8 hx0 zy_X8_chosen gw1219 gp28 gw1217 (Nat.le_of_ble_eq_true rfl) (Nat.le_of_ble_eq_true rfl) (Nat.le_of_ble_eq_true rfl) (Nat.le_of_ble_eq_true rfl) (zal hW) rfl dX8_tidy_146 (z_at 149 _ [.int v20] rfl rfl rfl ?_)
      refine z_istore (lv' := [(5, .int v20), (4, .int z13), (0, .ref x0), (1, .int x1), (2, .int x2), (3, .int x3)]) dX8_tidy_149 (Nat.le_of_ble_eq_true rfl) rfl (z_iload 0 dX8_tidy_151 rfl ?_)
      refine z_if_lt 185 dX8_tidy_153 rfl (fun q22 => ?_) (fun q22 => ?_)
      · refine z_iinc (v := (x3 + (1 : Int32))) (lv' := [(3, .int (x3 + (1 : Int32))), (5, .int v20), (4, .int z13), (0, .ref x0), (1, .int x1), (2, .int x2)]) 5 dX8_tidy_185 rfl (zi_inc _ zi_1) (Nat.le_of_ble_eq_true rfl) rfl (z_goto 87 dX8_tidy_188 rfl ?_)
        refine z_sub (lv' := [(0, .ref x0), (1, .int x1), (2, .int x2), (3, .int (x3 + (1 : Int32)))]) [3, 4, 5, 0] rfl ?_
        refine z_pc (pc' := 87) rfl ?_
        exact hk (x2, (x3 + (1 : Int32)), w)
      · refine z_aload_n 2 dX8_tidy_156 rfl (z_iload 0 dX8_tidy_157 rfl (z_aload_n 2 dX8_tidy_159 rfl (z_iload 1 dX8_tidy_160 rfl ?_)))
        refine z_bind (fun v23 hb24 => ?_)
        refine z_callV (kc' := 0) (ks' := 0) (v := (some (.int v23))) (S1 := S) (w1 := w) (st := [.int v20, .ref x0]) [.int z13] (m_X8_pickup hW w x0 hx0 z13 v23 hb24) zc8 hx0 zy_X8_pickup gw1251 gp32 gw1249 (Nat.le_of_ble_eq_true rfl) (Nat.le_of_ble_eq_true rfl) (Nat.le_of_ble_eq_true rfl) (Nat.le_of_ble_eq_true rfl) (zal hW) rfl dX8_tidy_162 (z_at 165 _ [.int v23, .int v20, .ref x0] rfl rfl rfl ?_)
        refine z_bind (fun v25 hb26 => ?_)
        refine z_callV (kc' := 0) (ks' := 0) (v := (some (.int v25))) (S1 := S) (w1 := w) (st := []) [.int v20, .int v23] (m_X8_isBad hW w x0 hx0 v20 v23 v25 hb26) zc8 hx0 zy_X8_isBad gw1247 gp31 gw1245 (Nat.le_of_ble_eq_true rfl) (Nat.le_of_ble_eq_true rfl) (Nat.le_of_ble_eq_true rfl) (Nat.le_of_ble_eq_true rfl) (zal hW) rfl dX8_tidy_165 (z_at 168 _ [.int v25] rfl rfl rfl ?_)
        refine z_if_eq 174 dX8_tidy_168 rfl (fun q27 => ?_) (fun q27 => ?_)
        · refine z_aload_n 2 dX8_tidy_174 rfl (z_iload 1 dX8_tidy_175 rfl (z_iload 0 dX8_tidy_177 rfl ?_))
          refine z_bind (fun r28 hb29 => ?_)
          refine z_callV (kc' := 0) (ks' := 0) (v := none) (S1 := S) (w1 := r28.2) (st := []) [.int z13, .int v20] (m_X8_moves hW w x0 hx0 z13 v20 r28 hb29) zc8 hx0 zy_X8_moves gw1317 gp46 gw1315 (Nat.le_of_ble_eq_true rfl) (Nat.le_of_ble_eq_true rfl) (Nat.le_of_ble_eq_true rfl) (Nat.le_of_ble_eq_true rfl) (zal hW) rfl dX8_tidy_179 (z_at 182 _ [] rfl rfl rfl ?_)
          refine z_iinc (v := (x2 + (1 : Int32))) (lv' := [(2, .int (x2 + (1 : Int32))), (5, .int v20), (4, .int z13), (0, .ref x0), (1, .int x1), (3, .int x3)]) 4 dX8_tidy_182 rfl (zi_inc _ zi_1) (Nat.le_of_ble_eq_true rfl) rfl (z_iinc (v := (x3 + (1 : Int32))) (lv' := [(3, .int (x3 + (1 : Int32))), (2, .int (x2 + (1 : Int32))), (5, .int v20), (4, .int z13), (0, .ref x0), (1, .int x1)]) 5 dX8_tidy_185 rfl (zi_inc _ zi_1) (Nat.le_of_ble_eq_true rfl) rfl (z_goto 87 dX8_tidy_188 rfl ?_))
          refine z_sub (lv' := [(0, .ref x0), (1, .int x1), (2, .int (x2 + (1 : Int32))), (3, .int (x3 + (1 : Int32)))]) [4, 5, 1, 0] rfl ?_
          refine z_pc (pc' := 87) rfl ?_
          exact hk ((x2 + (1 : Int32)), (x3 + (1 : Int32)), r28.2)
        · refine z_goto 185 dX8_tidy_171 rfl (z_iinc (v := (x3 + (1 : Int32))) (lv' := [(3, .int (x3 + (1 : Int32))), (5, .int v20), (4, .int z13), (0, .ref x0), (1, .int x1), (2, .int x2)]) 5 dX8_tidy_185 rfl (zi_inc _ zi_1) (Nat.le_of_ble_eq_true rfl) rfl (z_goto 87 dX8_tidy_188 rfl ?_))
          refine z_sub (lv' := [(0, .ref x0), (1, .int x1), (2, .int x2), (3, .int (x3 + (1 : Int32)))]) [3, 4, 5, 0] rfl ?_
          refine z_pc (pc' := 87) rfl ?_
          exact hk (x2, (x3 + (1 : Int32)), w)
    · refine z_goto 185 dX8_tidy_105 rfl (z_iinc (v := (x3 + (1 : Int32))) (lv' := [(3, .int (x3 + (1 : Int32))), (0, .ref x0), (1, .int x1), (2, .int x2)]) 3 dX8_tidy_185 rfl (zi_inc _ zi_1) (Nat.le_of_ble_eq_true rfl) rfl (z_goto 87 dX8_tidy_188 rfl ?_))
      refine z_sub (lv' := [(0, .ref x0), (1, .int x1), (2, .int x2), (3, .int (x3 + (1 : Int32)))]) [1, 2, 3, 0] rfl ?_
      refine z_pc (pc' := 87) rfl ?_
      exact hk (x2, (x3 + (1 : Int32)), w)

def f_X8_tidy_j67 (S : Zs) (w : Zw) (x0 : Nat) (x1 : Int32) (x2 : Int32) (x3 : Int32) (k8 : (Int32 × Int32 × Zw) → Option (Int32 × Zw)) : Option (Int32 × Zw) :=
  if zin x3 (zlen S (zr S x0 21)) = true then zlet (zput w (zr S x0 21) (zix x3) x2) fun w35 => k8 ((x1 + (1 : Int32)), (x2 + (2 : Int32)), w35) else none
theorem m_X8_tidy_j67 {E : ZE} {S : Zs} (hW : zWF S) (w : Zw) (x0 : Nat) (hx0 : zObj S x0 8) (x1 : Int32) (x2 : Int32) (x3 : Int32) (k8 : (Int32 × Int32 × Zw) → Option (Int32 × Zw)) (hk8 : ∀ a : Int32 × Int32 × Zw, zOk (E, i_X8_tidy, 9) 0 0 S a.2.2 8 [(0, .ref x0), (1, .int a.1), (2, .int a.2.1)] [] (emW eI S) (k8 a)) : zOk (E, i_X8_tidy, 9) 0 0 S w 67 [(0, .ref x0), (1, .int x1), (2, .int x2), (3, .int x3)] [] (emW eI S) (f_X8_tidy_j67 S w x0 x1 x2 x3 k8) := by
  unfold f_X8_tidy_j67
  refine z_aload_n 0 dX8_tidy_67 rfl (z_getR zc8 21 (by decide) rfl gw1128 hx0 (zW_some hW hx0 21 rfl) dX8_tidy_68 (z_iload_n 3 dX8_tidy_71 rfl (z_iload_n 2 dX8_tidy_72 rfl ?_)))
  refine z_chk (fun c34 => ?_)
  refine z_iast (zW_arr hW hx0 21 0 rfl) c34 dX8_tidy_73 (z_letw (fun w35 => ?_))
  refine z_iinc (v := (x1 + (1 : Int32))) (lv' := [(1, .int (x1 + (1 : Int32))), (0, .ref x0), (2, .int x2), (3, .int x3)]) 1 dX8_tidy_74 rfl (zi_inc _ zi_1) (Nat.le_of_ble_eq_true rfl) rfl (z_iinc (v := (x2 + (2 : Int32))) (lv' := [(2, .int (x2 + (2 : Int32))), (1, .int (x1 + (1 : Int32))), (0, .ref x0), (3, .int x3)]) 2 dX8_tidy_77 rfl (zi_inc _ zi_2) (Nat.le_of_ble_eq_true rfl) rfl (z_goto 8 dX8_tidy_80 rfl ?_))
  refine z_sub (lv' := [(0, .ref x0), (1, .int (x1 + (1 : Int32))), (2, .int (x2 + (2 : Int32)))]) [2, 1, 0] rfl ?_
  refine z_pc (pc' := 8) rfl ?_
  exact hk8 ((x1 + (1 : Int32)), (x2 + (2 : Int32)), w35)

def f_X8_tidy_b27 (S : Zs) (x0 : Nat) (x1 : Int32) (x2 : Int32) (k8 : (Int32 × Int32 × Zw) → Option (Int32 × Zw)) (k : (Int32 × Zw) → Option (Int32 × Zw)) (x3 : Int32) (w : Zw) : Option (Int32 × Zw) :=
  if x3 ≤ 0 then f_X8_tidy_j67 S w x0 x1 x2 x3 k8  else if zin (x3 - (1 : Int32)) (zlen S (zr S x0 21)) = true then (f_X8_isAhead S w x0 x2 (w (zr S x0 21) (zix (x3 - (1 : Int32))))).bind fun v37 => if v37 = 0 then f_X8_tidy_j67 S w x0 x1 x2 x3 k8  else if zin (x3 - (1 : Int32)) (zlen S (zr S x0 21)) = true then if zin x3 (zlen S (zr S x0 21)) = true then zlet (zput w (zr S x0 21) (zix x3) (w (zr S x0 21) (zix (x3 - (1 : Int32))))) fun w42 => k ((x3 + (-1 : Int32)), w42) else none else none else none
def f_X8_tidy_l27 (S : Zs) (x0 : Nat) (x1 : Int32) (x2 : Int32) (k8 : (Int32 × Int32 × Zw) → Option (Int32 × Zw)) (a : Int32 × Zw) : Option (Int32 × Zw) :=
  zlp (fun k a => f_X8_tidy_b27 S x0 x1 x2 k8 k a.1 a.2) zFU a
theorem m_X8_tidy_l27 {E : ZE} {S : Zs} (hW : zWF S) (x0 : Nat) (hx0 : zObj S x0 8) (x1 : Int32) (x2 : Int32) (k8 : (Int32 × Int32 × Zw) → Option (Int32 × Zw)) (hk8 : ∀ a : Int32 × Int32 × Zw, zOk (E, i_X8_tidy, 9) 0 0 S a.2.2 8 [(0, .ref x0), (1, .int a.1), (2, .int a.2.1)] [] (emW eI S) (k8 a)) : ∀ a : Int32 × Zw, zOk (E, i_X8_tidy, 9) 0 0 S a.2 27 [(0, .ref x0), (1, .int x1), (2, .int x2), (3, .int a.1)] [] (emW eI S) (f_X8_tidy_l27 S x0 x1 x2 k8 a) := by
  intro a
  refine z_lp (P := fun _ => True) (W9 := fun a : Int32 × Zw => a.2) (L9 := fun a : Int32 × Zw => [(0, .ref x0), (1, .int x1), (2, .int x2), (3, .int a.1)]) (T9 := fun _ => []) (fun k hk9 a _ => ?_) zFU a trivial
  have hk : ∀ a : Int32 × Zw, zOk (E, i_X8_tidy, 9) 0 0 S a.2 27 [(0, .ref x0), (1, .int x1), (2, .int x2), (3, .int a.1)] [] (emW eI S) (k a) := fun a => hk9 a trivial
  clear hk9
  obtain ⟨x3, w⟩ := a
  show zOk (E, i_X8_tidy, 9) 0 0 S w 27 [(0, .ref x0), (1, .int x1), (2, .int x2), (3, .int x3)] [] (emW eI S) (f_X8_tidy_b27 S x0 x1 x2 k8 k x3 w)
  unfold f_X8_tidy_b27
  refine z_iload_n 3 dX8_tidy_27 rfl ?_
  refine z_if_le 67 dX8_tidy_28 rfl (fun q33 => ?_) (fun q33 => ?_)
  · refine z_pc (pc' := 67) rfl ?_
    exact m_X8_tidy_j67 hW w x0 hx0 x1 x2 x3 k8 hk8 
  · refine z_aload_n 0 dX8_tidy_31 rfl (z_iload_n 2 dX8_tidy_32 rfl (z_aload_n 0 dX8_tidy_33 rfl (z_getR zc8 21 (by decide) rfl gw1128 hx0 (zW_some hW hx0 21 rfl) dX8_tidy_34 (z_iload_n 3 dX8_tidy_37 rfl (z_iconst dX8_tidy_38 zi_1 ?_)))))
    refine z_isub dX8_tidy_39 ?_
    refine z_chk (fun c36 => ?_)
    refine z_iald (zW_arr hW hx0 21 0 rfl) c36 dX8_tidy_40 ?_
    refine z_bind (fun v37 hb38 => ?_)
    refine z_callV (kc' := 0) (ks' := 0) (v := (some (.int v37))) (S1 := S) (w1 := w) (st := []) [.int x2, .int (w (zr S x0 21) (zix (x3 - (1 : Int32))))] (m_X8_isAhead hW w x0 hx0 x2 (w (zr S x0 21) (zix (x3 - (1 : Int32)))) v37 hb38) zc8 hx0 zy_X8_isAhead gw1428 gp58 gw1426 (Nat.le_of_ble_eq_true rfl) (Nat.le_of_ble_eq_true rfl) (Nat.le_of_ble_eq_true rfl) (Nat.le_of_ble_eq_true rfl) (zal hW) rfl dX8_tidy_41 (z_at 44 _ [.int v37] rfl rfl rfl ?_)
    refine z_if_eq 67 dX8_tidy_44 rfl (fun q39 => ?_) (fun q39 => ?_)
    · refine z_pc (pc' := 67) rfl ?_
      exact m_X8_tidy_j67 hW w x0 hx0 x1 x2 x3 k8 hk8 
    · refine z_aload_n 0 dX8_tidy_47 rfl (z_getR zc8 21 (by decide) rfl gw1128 hx0 (zW_some hW hx0 21 rfl) dX8_tidy_48 (z_iload_n 3 dX8_tidy_51 rfl (z_aload_n 0 dX8_tidy_52 rfl (z_getR zc8 21 (by decide) rfl gw1128 hx0 (zW_some hW hx0 21 rfl) dX8_tidy_53 (z_iload_n 3 dX8_tidy_56 rfl ?_)))))
      refine z_iconst dX8_tidy_57 zi_1 (z_isub dX8_tidy_58 ?_)
      refine z_chk (fun c40 => ?_)
      refine z_iald (zW_arr hW hx0 21 0 rfl) c40 dX8_tidy_59 ?_
      refine z_chk (fun c41 => ?_)
      refine z_iast (zW_arr hW hx0 21 0 rfl) c41 dX8_tidy_60 (z_letw (fun w42 => ?_))
      refine z_iinc (v := (x3 + (-1 : Int32))) (lv' := [(3, .int (x3 + (-1 : Int32))), (0, .ref x0), (1, .int x1), (2, .int x2)]) 3 dX8_tidy_61 rfl (zi_inc _ zi_m1) (Nat.le_of_ble_eq_true rfl) rfl (z_goto 27 dX8_tidy_64 rfl ?_)
      refine z_sub (lv' := [(0, .ref x0), (1, .int x1), (2, .int x2), (3, .int (x3 + (-1 : Int32)))]) [1, 2, 3, 0] rfl ?_
      refine z_pc (pc' := 27) rfl ?_
      exact hk ((x3 + (-1 : Int32)), w42)

def f_X8_tidy_b8 (S : Zs) (x0 : Nat) (k : (Int32 × Int32 × Zw) → Option (Int32 × Zw)) (x1 : Int32) (x2 : Int32) (w : Zw) : Option (Int32 × Zw) :=
  if (60 : Int32) ≤ x2 then f_X8_tidy_l87 S x0 x1 ((0 : Int32), (0 : Int32), w) else (f_X8_isWrong S w x0 x2).bind fun v30 => if v30 = 0 then k (x1, (x2 + (2 : Int32)), w) else f_X8_tidy_l27 S x0 x1 x2 k (x1, w)
def f_X8_tidy_l8 (S : Zs) (x0 : Nat) (a : Int32 × Int32 × Zw) : Option (Int32 × Zw) :=
  zlp (fun k a => f_X8_tidy_b8 S x0 k a.1 a.2.1 a.2.2) zFU a
theorem m_X8_tidy_l8 {E : ZE} {S : Zs} (hW : zWF S) (x0 : Nat) (hx0 : zObj S x0 8) : ∀ a : Int32 × Int32 × Zw, zOk (E, i_X8_tidy, 9) 0 0 S a.2.2 8 [(0, .ref x0), (1, .int a.1), (2, .int a.2.1)] [] (emW eI S) (f_X8_tidy_l8 S x0 a) := by
  intro a
  refine z_lp (P := fun _ => True) (W9 := fun a : Int32 × Int32 × Zw => a.2.2) (L9 := fun a : Int32 × Int32 × Zw => [(0, .ref x0), (1, .int a.1), (2, .int a.2.1)]) (T9 := fun _ => []) (fun k hk9 a _ => ?_) zFU a trivial
  have hk : ∀ a : Int32 × Int32 × Zw, zOk (E, i_X8_tidy, 9) 0 0 S a.2.2 8 [(0, .ref x0), (1, .int a.1), (2, .int a.2.1)] [] (emW eI S) (k a) := fun a => hk9 a trivial
  clear hk9
  obtain ⟨x1, x2, w⟩ := a
  show zOk (E, i_X8_tidy, 9) 0 0 S w 8 [(0, .ref x0), (1, .int x1), (2, .int x2)] [] (emW eI S) (f_X8_tidy_b8 S x0 k x1 x2 w)
  unfold f_X8_tidy_b8
  refine z_iload_n 2 dX8_tidy_8 rfl (z_bipush dX8_tidy_9 zb_60 ?_)
  refine z_icmp_ge 83 dX8_tidy_11 rfl (fun q3 => ?_) (fun q3 => ?_)
  · refine z_iconst dX8_tidy_83 zi_0 (z_istore_n (lv' := [(2, .int (0 : Int32)), (0, .ref x0), (1, .int x1)]) dX8_tidy_84 (Nat.le_of_ble_eq_true rfl) rfl (z_iconst dX8_tidy_85 zi_0 (z_istore_n (lv' := [(3, .int (0 : Int32)), (2, .int (0 : Int32)), (0, .ref x0), (1, .int x1)]) dX8_tidy_86 (Nat.le_of_ble_eq_true rfl) rfl ?_)))
    refine z_sub (lv' := [(0, .ref x0), (1, .int x1), (2, .int (0 : Int32)), (3, .int (0 : Int32))]) [2, 3, 1, 0] rfl ?_
    refine z_pc (pc' := 87) rfl ?_
    exact m_X8_tidy_l87 hW x0 hx0 x1 ((0 : Int32), (0 : Int32), w)
  · refine z_aload_n 0 dX8_tidy_14 rfl (z_iload_n 2 dX8_tidy_15 rfl ?_)
    refine z_bind (fun v30 hb31 => ?_)
    refine z_callV (kc' := 0) (ks' := 0) (v := (some (.int v30))) (S1 := S) (w1 := w) (st := []) [.int x2] (m_X8_isWrong hW w x0 hx0 x2 v30 hb31) zc8 hx0 zy_X8_isWrong gw1424 gp57 gw1422 (Nat.le_of_ble_eq_true rfl) (Nat.le_of_ble_eq_true rfl) (Nat.le_of_ble_eq_true rfl) (Nat.le_of_ble_eq_true rfl) (zal hW) rfl dX8_tidy_16 (z_at 19 _ [.int v30] rfl rfl rfl ?_)
    refine z_if_ne 25 dX8_tidy_19 rfl (fun q32 => ?_) (fun q32 => ?_)
    · refine z_iload_n 1 dX8_tidy_25 rfl (z_istore_n (lv' := [(3, .int x1), (0, .ref x0), (1, .int x1), (2, .int x2)]) dX8_tidy_26 (Nat.le_of_ble_eq_true rfl) rfl ?_)
      refine z_sub (lv' := [(0, .ref x0), (1, .int x1), (2, .int x2), (3, .int x1)]) [1, 2, 3, 0] rfl ?_
      refine z_pc (pc' := 27) rfl ?_
      exact m_X8_tidy_l27 hW x0 hx0 x1 x2 k hk (x1, w)
    · refine z_goto 77 dX8_tidy_22 rfl (z_iinc (v := (x2 + (2 : Int32))) (lv' := [(2, .int (x2 + (2 : Int32))), (0, .ref x0), (1, .int x1)]) 2 dX8_tidy_77 rfl (zi_inc _ zi_2) (Nat.le_of_ble_eq_true rfl) rfl (z_goto 8 dX8_tidy_80 rfl ?_))
      refine z_sub (lv' := [(0, .ref x0), (1, .int x1), (2, .int (x2 + (2 : Int32)))]) [1, 2, 0] rfl ?_
      refine z_pc (pc' := 8) rfl ?_
      exact hk (x1, (x2 + (2 : Int32)), w)

def f_X8_tidy (S : Zs) (w : Zw) (a0 : Nat) : Option (Int32 × Zw) :=
  (f_X8_begins S w a0).bind fun r1 => f_X8_tidy_l8 S a0 ((0 : Int32), (1 : Int32), r1.2)
theorem mw_X8_tidy {E : ZE} {S : Zs} (hW : zWF S) (w : Zw) (a0 : Nat) (h0 : zObj S a0 8) : zOk (E, i_X8_tidy, 9) 0 0 S w 0 [(0, .ref a0)] [] (emW eI S) (f_X8_tidy S w a0) := by
  unfold f_X8_tidy
  refine z_aload_n 0 dX8_tidy_0 rfl ?_
  refine z_bind (fun r1 hb2 => ?_)
  refine z_callV (kc' := 0) (ks' := 0) (v := none) (S1 := S) (w1 := r1.2) (st := []) [] (m_X8_begins hW w a0 h0 r1 hb2) zc8 h0 zy_X8_begins gw1195 gp25 gw1193 (Nat.le_of_ble_eq_true rfl) (Nat.le_of_ble_eq_true rfl) (Nat.le_of_ble_eq_true rfl) (Nat.le_of_ble_eq_true rfl) (zal hW) rfl dX8_tidy_1 (z_at 4 _ [] rfl rfl rfl ?_)
  refine z_iconst dX8_tidy_4 zi_0 (z_istore_n (lv' := [(1, .int (0 : Int32)), (0, .ref a0)]) dX8_tidy_5 (Nat.le_of_ble_eq_true rfl) rfl (z_iconst dX8_tidy_6 zi_1 (z_istore_n (lv' := [(2, .int (1 : Int32)), (1, .int (0 : Int32)), (0, .ref a0)]) dX8_tidy_7 (Nat.le_of_ble_eq_true rfl) rfl ?_)))
  refine z_sub (lv' := [(0, .ref a0), (1, .int (0 : Int32)), (2, .int (1 : Int32))]) [2, 1, 0] rfl ?_
  refine z_pc (pc' := 8) rfl ?_
  exact m_X8_tidy_l8 hW a0 h0 ((0 : Int32), (1 : Int32), r1.2)

theorem m_X8_tidy {E : ZE} {S : Zs} (hW : zWF S) (w : Zw) (a0 : Nat) (h0 : zObj S a0 8) : ∀ i, f_X8_tidy S w a0 = some i → zMr E yX8_tidy cX8_tidy 6 ((some .int)) 9 0 0 [.ref a0] S w ((emW eI S) i) :=
  fun i hi => z_enter (by decide +kernel) (Nat.le_of_ble_eq_true rfl) (mw_X8_tidy hW w a0 h0 i hi)
/-! ParkingRobotModel.undo ()I : W, depth 1 -/
abbrev i_X8_undo : Zm := (yX8_undo.cls, cX8_undo, 1, (some .int), [], yX8_undo.name)
def f_X8_undo (S : Zs) (w : Zw) (a0 : Nat) : Option (Int32 × Zw) :=
  zlet (zput w a0 0 (0 : Int32)) fun w1 => if (w1 a0 6) = 0 then (f_X8_fails S w1 a0 (1 : Int32)).bind fun r6 => some (r6.1, r6.2) else (zlet (zput w1 a0 6 ((w1 a0 6) - (1 : Int32))) fun w3 => (f_X8_copies S w3 (zr S a0 5) ((399 : Int32) * (w3 a0 6)) (zr S a0 1) (0 : Int32)).bind fun r4 => some ((r4.2 a0 6), r4.2))
theorem mw_X8_undo {E : ZE} {S : Zs} (hW : zWF S) (w : Zw) (a0 : Nat) (h0 : zObj S a0 8) : zOk (E, i_X8_undo, 1) 0 0 S w 0 [(0, .ref a0)] [] (emW eI S) (f_X8_undo S w a0) := by
  unfold f_X8_undo
  refine z_aload_n 0 dX8_undo_0 rfl (z_iconst dX8_undo_1 zi_0 ?_)
  refine z_putI zc8 0 (by decide) (Or.inl rfl) rfl gw1107 h0 dX8_undo_2 (z_letw (fun w1 => ?_))
  refine z_aload_n 0 dX8_undo_5 rfl (z_getI zc8 6 (by decide) rfl gw1113 h0 dX8_undo_6 ?_)
  refine z_if_ne 18 dX8_undo_9 rfl (fun q2 => ?_) (fun q2 => ?_)
  · refine z_aload_n 0 dX8_undo_18 rfl (z_dup dX8_undo_19 rfl (z_getI zc8 6 (by decide) rfl gw1113 h0 dX8_undo_20 (z_iconst dX8_undo_23 zi_1 (z_isub dX8_undo_24 ?_))))
    refine z_putI zc8 6 (by decide) (Or.inl rfl) rfl gw1113 h0 dX8_undo_25 (z_letw (fun w3 => ?_))
    refine z_aload_n 0 dX8_undo_28 rfl (z_getR zc8 5 (by decide) rfl gw1112 h0 (zW_some hW h0 5 rfl) dX8_undo_29 (z_sipush dX8_undo_32 zs_399 (z_aload_n 0 dX8_undo_35 rfl (z_getI zc8 6 (by decide) rfl gw1113 h0 dX8_undo_36 (z_imul dX8_undo_39 ?_)))))
    refine z_aload_n 0 dX8_undo_40 rfl (z_getR zc8 1 (by decide) rfl gw1108 h0 (zW_some hW h0 1 rfl) dX8_undo_41 (z_iconst dX8_undo_44 zi_0 ?_))
    refine z_bind (fun r4 hb5 => ?_)
    refine z_callS (kc' := 0) (ks' := 0) (v := none) (S1 := S) (w1 := r4.2) (st := []) [.ref (zr S a0 5), .int ((399 : Int32) * (w3 a0 6)), .ref (zr S a0 1), .int (0 : Int32)] (m_X8_copies hW w3 (zr S a0 5) (zW_arr hW h0 5 0 rfl) ((399 : Int32) * (w3 a0 6)) (zr S a0 1) (zW_arr hW h0 1 0 rfl) (0 : Int32) r4 hb5) zy_X8_copies gw1198 gw1197 (Nat.le_of_ble_eq_true rfl) (Nat.le_of_ble_eq_true rfl) (Nat.le_of_ble_eq_true rfl) (Nat.le_of_ble_eq_true rfl) (zal hW) rfl dX8_undo_45 (z_at 48 _ [] rfl rfl rfl ?_)
    refine z_aload_n 0 dX8_undo_48 rfl (z_getI zc8 6 (by decide) rfl gw1113 h0 dX8_undo_49 ?_)
    exact z_iret zemW rfl dX8_undo_52
  · refine z_aload_n 0 dX8_undo_12 rfl (z_iconst dX8_undo_13 zi_1 ?_)
    refine z_bind (fun r6 hb7 => ?_)
    refine z_callV (kc' := 0) (ks' := 0) (v := (some (.int r6.1))) (S1 := S) (w1 := r6.2) (st := []) [.int (1 : Int32)] (m_X8_fails hW w1 a0 h0 (1 : Int32) r6 hb7) zc8 h0 zy_X8_fails gw1215 gp27 gw1213 (Nat.le_of_ble_eq_true rfl) (Nat.le_of_ble_eq_true rfl) (Nat.le_of_ble_eq_true rfl) (Nat.le_of_ble_eq_true rfl) (zal hW) rfl dX8_undo_14 (z_at 17 _ [.int r6.1] rfl rfl rfl ?_)
    exact z_iret zemW rfl dX8_undo_17

theorem m_X8_undo {E : ZE} {S : Zs} (hW : zWF S) (w : Zw) (a0 : Nat) (h0 : zObj S a0 8) : ∀ i, f_X8_undo S w a0 = some i → zMr E yX8_undo cX8_undo 1 ((some .int)) 1 0 0 [.ref a0] S w ((emW eI S) i) :=
  fun i hi => z_enter (by decide +kernel) (Nat.le_of_ble_eq_true rfl) (mw_X8_undo hW w a0 h0 i hi)
end ZFN
