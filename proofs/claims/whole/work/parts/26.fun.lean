section ZFN
/-! ParkingRobotModel.command ()I : W, depth 2 -/
abbrev i_X8_command : Zm := (yX8_command.cls, cX8_command, 2, (some .int), [], yX8_command.name)
def f_X8_command_j116 (S : Zs) (w : Zw) (x0 : Nat) (x1 : Int32) (y0 : Int32) (y1 : Int32) (y2 : Nat) : Option (Int32 × Zw) :=
  if zin y1 (zlen S y2) = true then zlet (zput w y2 (zix y1) y0) fun w13 => (f_X8_takes S w13 x0 (59 : Int32)).bind fun r14 => some (x1, r14.2) else none
theorem m_X8_command_j116 {E : ZE} {S : Zs} (hW : zWF S) (w : Zw) (x0 : Nat) (hx0 : zObj S x0 8) (x1 : Int32) (y0 : Int32) (y1 : Int32) (y2 : Nat) (hy2 : zArr S y2 0) : zOk (E, i_X8_command, 2) 0 0 S w 116 [(0, .ref x0), (1, .int x1)] [.int y0, .int y1, .ref y2] (emW eI S) (f_X8_command_j116 S w x0 x1 y0 y1 y2) := by
  unfold f_X8_command_j116
  refine z_chk (fun c12 => ?_)
  refine z_iast hy2 c12 dX8_command_116 (z_letw (fun w13 => ?_))
  refine z_aload_n 0 dX8_command_117 rfl (z_bipush dX8_command_118 zb_59 ?_)
  refine z_bind (fun r14 hb15 => ?_)
  refine z_callV (kc' := 0) (ks' := 0) (v := none) (S1 := S) (w1 := r14.2) (st := []) [.int (59 : Int32)] (m_X8_takes hW w13 x0 hx0 (59 : Int32) r14 hb15) zc8 hx0 zy_X8_takes gw1488 gp63 gw1486 (Nat.le_of_ble_eq_true rfl) (Nat.le_of_ble_eq_true rfl) (Nat.le_of_ble_eq_true rfl) (Nat.le_of_ble_eq_true rfl) (zal hW) rfl dX8_command_120 (z_at 123 _ [] rfl rfl rfl ?_)
  refine z_iload_n 1 dX8_command_123 rfl ?_
  exact z_iret zemW rfl dX8_command_124

def f_X8_command_j93 (S : Zs) (w : Zw) (x0 : Nat) (x1 : Int32) : Option (Int32 × Zw) :=
  if (w x0 26) = 0 then (f_X8_number S w x0 (4 : Int32) (57 : Int32)).bind fun r10 => f_X8_command_j116 S r10.2 x0 x1 r10.1 (0 : Int32) ((zr S x0 23))  else f_X8_command_j116 S w x0 x1 (0 : Int32) (0 : Int32) ((zr S x0 23)) 
theorem m_X8_command_j93 {E : ZE} {S : Zs} (hW : zWF S) (w : Zw) (x0 : Nat) (hx0 : zObj S x0 8) (x1 : Int32) : zOk (E, i_X8_command, 2) 0 0 S w 93 [(0, .ref x0), (1, .int x1)] [] (emW eI S) (f_X8_command_j93 S w x0 x1) := by
  unfold f_X8_command_j93
  refine z_aload_n 0 dX8_command_93 rfl (z_getR zc8 23 (by decide) rfl gw1130 hx0 (zW_some hW hx0 23 rfl) dX8_command_94 (z_iconst dX8_command_97 zi_0 (z_aload_n 0 dX8_command_98 rfl (z_getI zc8 26 (by decide) rfl gw1133 hx0 dX8_command_99 ?_))))
  refine z_if_eq 109 dX8_command_102 rfl (fun q9 => ?_) (fun q9 => ?_)
  · refine z_aload_n 0 dX8_command_109 rfl (z_iconst dX8_command_110 zi_4 (z_bipush dX8_command_111 zb_57 ?_))
    refine z_bind (fun r10 hb11 => ?_)
    refine z_callV (kc' := 0) (ks' := 0) (v := (some (.int r10.1))) (S1 := S) (w1 := r10.2) (st := [.int (0 : Int32), .ref (zr S x0 23)]) [.int (4 : Int32), .int (57 : Int32)] (m_X8_number hW w x0 hx0 (4 : Int32) (57 : Int32) r10 hb11) zc8 hx0 zy_X8_number gw1484 gp62 gw1482 (Nat.le_of_ble_eq_true rfl) (Nat.le_of_ble_eq_true rfl) (Nat.le_of_ble_eq_true rfl) (Nat.le_of_ble_eq_true rfl) (zal hW) rfl dX8_command_113 (z_at 116 _ [.int r10.1, .int (0 : Int32), .ref (zr S x0 23)] rfl rfl rfl ?_)
    refine z_pc (pc' := 116) rfl ?_
    exact m_X8_command_j116 hW r10.2 x0 hx0 x1 r10.1 (0 : Int32) ((zr S x0 23)) (zW_arr hW hx0 23 0 rfl) 
  · refine z_iconst dX8_command_105 zi_0 (z_goto 116 dX8_command_106 rfl ?_)
    refine z_pc (pc' := 116) rfl ?_
    exact m_X8_command_j116 hW w x0 hx0 x1 (0 : Int32) (0 : Int32) ((zr S x0 23)) (zW_arr hW hx0 23 0 rfl) 

def f_X8_command_j45 (S : Zs) (w : Zw) (x0 : Nat) (x1 : Int32) (y0 : Int32) (y1 : Int32) (y2 : Nat) : Option (Int32 × Zw) :=
  if zb1 (y1 ||| y0) = true then zlet (zput w y2 26 (y1 ||| y0)) fun w5 => if (w5 x0 26) = 0 then (zlet (zput w5 x0 25 ((w5 x0 25) + (1 : Int32))) fun w7 => if x1 = (115 : Int32) then (f_X8_number S w7 x0 (1 : Int32) (49 : Int32)).bind fun r16 => if zin (1 : Int32) (zlen S (zr S x0 23)) = true then zlet (zput r16.2 (zr S x0 23) (zix (1 : Int32)) r16.1) fun w19 => (f_X8_takes S w19 x0 (44 : Int32)).bind fun r20 => f_X8_command_j93 S r20.2 x0 x1  else none else f_X8_command_j93 S w7 x0 x1 ) else some ((-1 : Int32), w5) else none
theorem m_X8_command_j45 {E : ZE} {S : Zs} (hW : zWF S) (w : Zw) (x0 : Nat) (hx0 : zObj S x0 8) (x1 : Int32) (y0 : Int32) (y1 : Int32) (y2 : Nat) (hy2 : zObj S y2 8) : zOk (E, i_X8_command, 2) 0 0 S w 45 [(0, .ref x0), (1, .int x1)] [.int y0, .int y1, .ref y2] (emW eI S) (f_X8_command_j45 S w x0 x1 y0 y1 y2) := by
  unfold f_X8_command_j45
  refine z_ior dX8_command_45 ?_
  refine z_chk (fun c4 => ?_)
  refine z_putI zc8 26 (by decide) (Or.inr ⟨rfl, zb1_or c4⟩) rfl gw1133 hy2 dX8_command_46 (z_letw (fun w5 => ?_))
  refine z_aload_n 0 dX8_command_49 rfl (z_getI zc8 26 (by decide) rfl gw1133 hx0 dX8_command_50 ?_)
  refine z_if_eq 58 dX8_command_53 rfl (fun q6 => ?_) (fun q6 => ?_)
  · refine z_aload_n 0 dX8_command_58 rfl (z_dup dX8_command_59 rfl (z_getI zc8 25 (by decide) rfl gw1132 hx0 dX8_command_60 (z_iconst dX8_command_63 zi_1 (z_iadd dX8_command_64 ?_))))
    refine z_putI zc8 25 (by decide) (Or.inl rfl) rfl gw1132 hx0 dX8_command_65 (z_letw (fun w7 => ?_))
    refine z_iload_n 1 dX8_command_68 rfl (z_bipush dX8_command_69 zb_115 ?_)
    refine z_icmp_ne 93 dX8_command_71 rfl (fun q8 => ?_) (fun q8 => ?_)
    · refine z_pc (pc' := 93) rfl ?_
      exact m_X8_command_j93 hW w7 x0 hx0 x1 
    · refine z_aload_n 0 dX8_command_74 rfl (z_getR zc8 23 (by decide) rfl gw1130 hx0 (zW_some hW hx0 23 rfl) dX8_command_75 (z_iconst dX8_command_78 zi_1 (z_aload_n 0 dX8_command_79 rfl (z_iconst dX8_command_80 zi_1 (z_bipush dX8_command_81 zb_49 ?_)))))
      refine z_bind (fun r16 hb17 => ?_)
      refine z_callV (kc' := 0) (ks' := 0) (v := (some (.int r16.1))) (S1 := S) (w1 := r16.2) (st := [.int (1 : Int32), .ref (zr S x0 23)]) [.int (1 : Int32), .int (49 : Int32)] (m_X8_number hW w7 x0 hx0 (1 : Int32) (49 : Int32) r16 hb17) zc8 hx0 zy_X8_number gw1484 gp62 gw1482 (Nat.le_of_ble_eq_true rfl) (Nat.le_of_ble_eq_true rfl) (Nat.le_of_ble_eq_true rfl) (Nat.le_of_ble_eq_true rfl) (zal hW) rfl dX8_command_83 (z_at 86 _ [.int r16.1, .int (1 : Int32), .ref (zr S x0 23)] rfl rfl rfl ?_)
      refine z_chk (fun c18 => ?_)
      refine z_iast (zW_arr hW hx0 23 0 rfl) c18 dX8_command_86 (z_letw (fun w19 => ?_))
      refine z_aload_n 0 dX8_command_87 rfl (z_bipush dX8_command_88 zb_44 ?_)
      refine z_bind (fun r20 hb21 => ?_)
      refine z_callV (kc' := 0) (ks' := 0) (v := none) (S1 := S) (w1 := r20.2) (st := []) [.int (44 : Int32)] (m_X8_takes hW w19 x0 hx0 (44 : Int32) r20 hb21) zc8 hx0 zy_X8_takes gw1488 gp63 gw1486 (Nat.le_of_ble_eq_true rfl) (Nat.le_of_ble_eq_true rfl) (Nat.le_of_ble_eq_true rfl) (Nat.le_of_ble_eq_true rfl) (zal hW) rfl dX8_command_90 (z_at 93 _ [] rfl rfl rfl ?_)
      refine z_pc (pc' := 93) rfl ?_
      exact m_X8_command_j93 hW r20.2 x0 hx0 x1 
  · refine z_iconst dX8_command_56 zi_m1 ?_
    exact z_iret zemW rfl dX8_command_57

def f_X8_command_j44 (S : Zs) (w : Zw) (x0 : Nat) (x1 : Int32) (y0 : Int32) (y1 : Nat) : Option (Int32 × Zw) :=
  f_X8_command_j45 S w x0 x1 (0 : Int32) y0 y1 
theorem m_X8_command_j44 {E : ZE} {S : Zs} (hW : zWF S) (w : Zw) (x0 : Nat) (hx0 : zObj S x0 8) (x1 : Int32) (y0 : Int32) (y1 : Nat) (hy1 : zObj S y1 8) : zOk (E, i_X8_command, 2) 0 0 S w 44 [(0, .ref x0), (1, .int x1)] [.int y0, .ref y1] (emW eI S) (f_X8_command_j44 S w x0 x1 y0 y1) := by
  unfold f_X8_command_j44
  refine z_iconst dX8_command_44 zi_0 ?_
  refine z_pc (pc' := 45) rfl ?_
  exact m_X8_command_j45 hW w x0 hx0 x1 (0 : Int32) y0 y1 hy1 

def f_X8_command (S : Zs) (w : Zw) (a0 : Nat) : Option (Int32 × Zw) :=
  (f_X8_sign S w a0).bind fun v1 => if v1 = (115 : Int32) then f_X8_command_j44 S w a0 v1 ((w a0 26)) a0  else if v1 = (114 : Int32) then f_X8_command_j44 S w a0 v1 ((w a0 26)) a0  else if v1 = (116 : Int32) then f_X8_command_j44 S w a0 v1 ((w a0 26)) a0  else if v1 = (99 : Int32) then f_X8_command_j44 S w a0 v1 ((w a0 26)) a0  else if v1 = (111 : Int32) then f_X8_command_j44 S w a0 v1 ((w a0 26)) a0  else f_X8_command_j45 S w a0 v1 (1 : Int32) ((w a0 26)) a0 
theorem mw_X8_command {E : ZE} {S : Zs} (hW : zWF S) (w : Zw) (a0 : Nat) (h0 : zObj S a0 8) : zOk (E, i_X8_command, 2) 0 0 S w 0 [(0, .ref a0)] [] (emW eI S) (f_X8_command S w a0) := by
  unfold f_X8_command
  refine z_aload_n 0 dX8_command_0 rfl ?_
  refine z_bind (fun v1 hb2 => ?_)
  refine z_callV (kc' := 0) (ks' := 0) (v := (some (.int v1))) (S1 := S) (w1 := w) (st := []) [] (m_X8_sign hW w a0 h0 v1 hb2) zc8 h0 zy_X8_sign gw1480 gp61 gw1478 (Nat.le_of_ble_eq_true rfl) (Nat.le_of_ble_eq_true rfl) (Nat.le_of_ble_eq_true rfl) (Nat.le_of_ble_eq_true rfl) (zal hW) rfl dX8_command_1 (z_at 4 _ [.int v1] rfl rfl rfl ?_)
  refine z_istore_n (lv' := [(1, .int v1), (0, .ref a0)]) dX8_command_4 (Nat.le_of_ble_eq_true rfl) rfl (z_aload_n 1 dX8_command_5 rfl (z_dup dX8_command_6 rfl (z_getI zc8 26 (by decide) rfl gw1133 h0 dX8_command_7 (z_iload_n 0 dX8_command_10 rfl (z_bipush dX8_command_11 zb_115 ?_)))))
  refine z_icmp_eq 44 dX8_command_13 rfl (fun q3 => ?_) (fun q3 => ?_)
  · refine z_sub (lv' := [(0, .ref a0), (1, .int v1)]) [1, 0] rfl ?_
    refine z_pc (pc' := 44) rfl ?_
    exact m_X8_command_j44 hW w a0 h0 v1 ((w a0 26)) a0 h0 
  · refine z_iload_n 0 dX8_command_16 rfl (z_bipush dX8_command_17 zb_114 ?_)
    refine z_icmp_eq 44 dX8_command_19 rfl (fun q22 => ?_) (fun q22 => ?_)
    · refine z_sub (lv' := [(0, .ref a0), (1, .int v1)]) [1, 0] rfl ?_
      refine z_pc (pc' := 44) rfl ?_
      exact m_X8_command_j44 hW w a0 h0 v1 ((w a0 26)) a0 h0 
    · refine z_iload_n 0 dX8_command_22 rfl (z_bipush dX8_command_23 zb_116 ?_)
      refine z_icmp_eq 44 dX8_command_25 rfl (fun q23 => ?_) (fun q23 => ?_)
      · refine z_sub (lv' := [(0, .ref a0), (1, .int v1)]) [1, 0] rfl ?_
        refine z_pc (pc' := 44) rfl ?_
        exact m_X8_command_j44 hW w a0 h0 v1 ((w a0 26)) a0 h0 
      · refine z_iload_n 0 dX8_command_28 rfl (z_bipush dX8_command_29 zb_99 ?_)
        refine z_icmp_eq 44 dX8_command_31 rfl (fun q24 => ?_) (fun q24 => ?_)
        · refine z_sub (lv' := [(0, .ref a0), (1, .int v1)]) [1, 0] rfl ?_
          refine z_pc (pc' := 44) rfl ?_
          exact m_X8_command_j44 hW w a0 h0 v1 ((w a0 26)) a0 h0 
        · refine z_iload_n 0 dX8_command_34 rfl (z_bipush dX8_command_35 zb_111 ?_)
          refine z_icmp_eq 44 dX8_command_37 rfl (fun q25 => ?_) (fun q25 => ?_)
          · refine z_sub (lv' := [(0, .ref a0), (1, .int v1)]) [1, 0] rfl ?_
            refine z_pc (pc' := 44) rfl ?_
            exact m_X8_command_j44 hW w a0 h0 v1 ((w a0 26)) a0 h0 
          · refine z_iconst dX8_command_40 zi_1 (z_goto 45 dX8_command_41 rfl ?_)
            refine z_sub (lv' := [(0, .ref a0), (1, .int v1)]) [1, 0] rfl ?_
            refine z_pc (pc' := 45) rfl ?_
            exact m_X8_command_j45 hW w a0 h0 v1 (1 : Int32) ((w a0 26)) a0 h0 

theorem m_X8_command {E : ZE} {S : Zs} (hW : zWF S) (w : Zw) (a0 : Nat) (h0 : zObj S a0 8) : ∀ i, f_X8_command S w a0 = some i → zMr E yX8_command cX8_command 2 ((some .int)) 2 0 0 [.ref a0] S w ((emW eI S) i) :=
  fun i hi => z_enter (by decide +kernel) (Nat.le_of_ble_eq_true rfl) (mw_X8_command hW w a0 h0 i hi)
/-! ParkingRobotModel.due (I)J : W, depth 3 -/
abbrev i_X8_due : Zm := (yX8_due.cls, cX8_due, 5, (some .long), [], yX8_due.name)
def f_X8_due_b24 (S : Zs) (w : Zw) (x0 : Nat) (x1 : Int32) (k : (Int64 × Int32) → Option (Int64 × Zw)) (x2 : Int64) (x4 : Int32) : Option (Int64 × Zw) :=
  if zin (1 : Int32) (zlen S (zr S x0 1)) = true then if (w (zr S x0 1) (zix (1 : Int32))) ≤ x4 then some (x2, w) else (f_X8_isCar S w x0 x4).bind fun v7 => if v7 = 0 then (zlet (x2 ||| (0 : Int64)) fun z10 => k (z10, (x4 + (1 : Int32)))) else (f_X8_pickup S w x0 x4).bind fun v11 => if x1 < v11 then (zlet (x2 ||| (0 : Int64)) fun z14 => k (z14, (x4 + (1 : Int32)))) else (zlet (x2 ||| (zlshl (1 : Int64) x4)) fun z15 => k (z15, (x4 + (1 : Int32)))) else none
def f_X8_due_l24 (S : Zs) (w : Zw) (x0 : Nat) (x1 : Int32) (a : Int64 × Int32) : Option (Int64 × Zw) :=
  zlp (fun k a => f_X8_due_b24 S w x0 x1 k a.1 a.2) zFU a
theorem m_X8_due_l24 {E : ZE} {S : Zs} (hW : zWF S) (w : Zw) (x0 : Nat) (hx0 : zObj S x0 8) (x1 : Int32) : ∀ a : Int64 × Int32, zOk (E, i_X8_due, 3) 0 0 S w 24 [(0, .ref x0), (1, .int x1), (2, .long a.1), (4, .int a.2)] [] (emW eL S) (f_X8_due_l24 S w x0 x1 a) := by
  intro a
  refine z_lp (P := fun _ => True) (W9 := fun a : Int64 × Int32 => w) (L9 := fun a : Int64 × Int32 => [(0, .ref x0), (1, .int x1), (2, .long a.1), (4, .int a.2)]) (T9 := fun _ => []) (fun k hk9 a _ => ?_) zFU a trivial
  have hk : ∀ a : Int64 × Int32, zOk (E, i_X8_due, 3) 0 0 S w 24 [(0, .ref x0), (1, .int x1), (2, .long a.1), (4, .int a.2)] [] (emW eL S) (k a) := fun a => hk9 a trivial
  clear hk9
  obtain ⟨x2, x4⟩ := a
  show zOk (E, i_X8_due, 3) 0 0 S w 24 [(0, .ref x0), (1, .int x1), (2, .long x2), (4, .int x4)] [] (emW eL S) (f_X8_due_b24 S w x0 x1 k x2 x4)
  unfold f_X8_due_b24
  refine z_iload 3 dX8_due_24 rfl (z_aload_n 0 dX8_due_26 rfl (z_getR zc8 1 (by decide) rfl gw1108 hx0 (zW_some hW hx0 1 rfl) dX8_due_27 (z_iconst dX8_due_30 zi_1 ?_)))
  refine z_chk (fun c5 => ?_)
  refine z_iald (zW_arr hW hx0 1 0 rfl) c5 dX8_due_31 ?_
  refine z_icmp_ge 71 dX8_due_32 rfl (fun q6 => ?_) (fun q6 => ?_)
  · refine z_lload_n 2 dX8_due_71 rfl ?_
    exact z_lret zemW rfl dX8_due_72
  · refine z_lload_n 2 dX8_due_35 rfl (z_aload_n 0 dX8_due_36 rfl (z_iload 3 dX8_due_37 rfl ?_))
    refine z_bind (fun v7 hb8 => ?_)
    refine z_callV (kc' := 0) (ks' := 0) (v := (some (.int v7))) (S1 := S) (w1 := w) (st := [.long x2]) [.int x4] (m_X8_isCar hW w x0 hx0 x4 v7 hb8) zc8 hx0 zy_X8_isCar gw1301 gp42 gw1299 (Nat.le_of_ble_eq_true rfl) (Nat.le_of_ble_eq_true rfl) (Nat.le_of_ble_eq_true rfl) (Nat.le_of_ble_eq_true rfl) (zal hW) rfl dX8_due_39 (z_at 42 _ [.int v7, .long x2] rfl rfl rfl ?_)
    refine z_if_eq 62 dX8_due_42 rfl (fun q9 => ?_) (fun q9 => ?_)
    · refine z_lconst dX8_due_62 zl_0 (z_lor dX8_due_63 ?_)
      refine z_let (a := (x2 ||| (0 : Int64))) (fun z10 => [(0, .ref x0), (1, .int x1), (2, .long x2), (4, .int x4)]) (fun z10 => .long z10 :: []) (fun z10 => ?_)
      refine z_lstore_n (lv' := [(2, .long z10), (0, .ref x0), (1, .int x1), (4, .int x4)]) dX8_due_64 (Nat.le_of_ble_eq_true rfl) rfl (z_iinc (v := (x4 + (1 : Int32))) (lv' := [(4, .int (x4 + (1 : Int32))), (2, .long z10), (0, .ref x0), (1, .int x1)]) 3 dX8_due_65 rfl (zi_inc _ zi_1) (Nat.le_of_ble_eq_true rfl) rfl (z_goto 24 dX8_due_68 rfl ?_))
      refine z_sub (lv' := [(0, .ref x0), (1, .int x1), (2, .long z10), (4, .int (x4 + (1 : Int32)))]) [2, 3, 1, 0] rfl ?_
      refine z_pc (pc' := 24) rfl ?_
      exact hk (z10, (x4 + (1 : Int32)))
    · refine z_aload_n 0 dX8_due_45 rfl (z_iload 3 dX8_due_46 rfl ?_)
      refine z_bind (fun v11 hb12 => ?_)
      refine z_callV (kc' := 0) (ks' := 0) (v := (some (.int v11))) (S1 := S) (w1 := w) (st := [.long x2]) [.int x4] (m_X8_pickup hW w x0 hx0 x4 v11 hb12) zc8 hx0 zy_X8_pickup gw1251 gp32 gw1249 (Nat.le_of_ble_eq_true rfl) (Nat.le_of_ble_eq_true rfl) (Nat.le_of_ble_eq_true rfl) (Nat.le_of_ble_eq_true rfl) (zal hW) rfl dX8_due_48 (z_at 51 _ [.int v11, .long x2] rfl rfl rfl ?_)
      refine z_iload_n 1 dX8_due_51 rfl ?_
      refine z_icmp_gt 62 dX8_due_52 rfl (fun q13 => ?_) (fun q13 => ?_)
      · refine z_lconst dX8_due_62 zl_0 (z_lor dX8_due_63 ?_)
        refine z_let (a := (x2 ||| (0 : Int64))) (fun z14 => [(0, .ref x0), (1, .int x1), (2, .long x2), (4, .int x4)]) (fun z14 => .long z14 :: []) (fun z14 => ?_)
        refine z_lstore_n (lv' := [(2, .long z14), (0, .ref x0), (1, .int x1), (4, .int x4)]) dX8_due_64 (Nat.le_of_ble_eq_true rfl) rfl (z_iinc (v := (x4 + (1 : Int32))) (lv' := [(4, .int (x4 + (1 : Int32))), (2, .long z14), (0, .ref x0), (1, .int x1)]) 3 dX8_due_65 rfl (zi_inc _ zi_1) (Nat.le_of_ble_eq_true rfl) rfl (z_goto 24 dX8_due_68 rfl ?_))
        refine z_sub (lv' := [(0, .ref x0), (1, .int x1), (2, .long z14), (4, .int (x4 + (1 : Int32)))]) [2, 3, 1, 0] rfl ?_
        refine z_pc (pc' := 24) rfl ?_
        exact hk (z14, (x4 + (1 : Int32)))
      · refine z_lconst dX8_due_55 zl_1 (z_iload 3 dX8_due_56 rfl (z_lshl (v := (zlshl (1 : Int64) x4)) dX8_due_58 rfl (z_goto 63 dX8_due_59 rfl (z_lor dX8_due_63 ?_))))
        refine z_let (a := (x2 ||| (zlshl (1 : Int64) x4))) (fun z15 => [(0, .ref x0), (1, .int x1), (2, .long x2), (4, .int x4)]) (fun z15 => .long z15 :: []) (fun z15 => ?_)
        refine z_lstore_n (lv' := [(2, .long z15), (0, .ref x0), (1, .int x1), (4, .int x4)]) dX8_due_64 (Nat.le_of_ble_eq_true rfl) rfl (z_iinc (v := (x4 + (1 : Int32))) (lv' := [(4, .int (x4 + (1 : Int32))), (2, .long z15), (0, .ref x0), (1, .int x1)]) 3 dX8_due_65 rfl (zi_inc _ zi_1) (Nat.le_of_ble_eq_true rfl) rfl (z_goto 24 dX8_due_68 rfl ?_))
        refine z_sub (lv' := [(0, .ref x0), (1, .int x1), (2, .long z15), (4, .int (x4 + (1 : Int32)))]) [2, 3, 1, 0] rfl ?_
        refine z_pc (pc' := 24) rfl ?_
        exact hk (z15, (x4 + (1 : Int32)))

def f_X8_due (S : Zs) (w : Zw) (a0 : Nat) (a1 : Int32) : Option (Int64 × Zw) :=
  zlet (zput w a0 0 (0 : Int32)) fun w1 => (f_X8_isPickup a1).bind fun v2 => if v2 = 0 then (f_X8_fails S w1 a0 (1 : Int32)).bind fun r16 => some ((r16.1).toInt64, r16.2) else f_X8_due_l24 S w1 a0 a1 ((0 : Int64), (0 : Int32))
theorem mw_X8_due {E : ZE} {S : Zs} (hW : zWF S) (w : Zw) (a0 : Nat) (h0 : zObj S a0 8) (a1 : Int32) : zOk (E, i_X8_due, 3) 0 0 S w 0 [(0, .ref a0), (1, .int a1)] [] (emW eL S) (f_X8_due S w a0 a1) := by
  unfold f_X8_due
  refine z_aload_n 0 dX8_due_0 rfl (z_iconst dX8_due_1 zi_0 ?_)
  refine z_putI zc8 0 (by decide) (Or.inl rfl) rfl gw1107 h0 dX8_due_2 (z_letw (fun w1 => ?_))
  refine z_iload_n 1 dX8_due_5 rfl ?_
  refine z_bind (fun v2 hb3 => ?_)
  refine z_callS (kc' := 0) (ks' := 0) (v := (some (.int v2))) (S1 := S) (w1 := w1) (st := []) [.int a1] (m_X8_isPickup hW w1 a1 v2 hb3) zy_X8_isPickup gw1211 gw1210 (Nat.le_of_ble_eq_true rfl) (Nat.le_of_ble_eq_true rfl) (Nat.le_of_ble_eq_true rfl) (Nat.le_of_ble_eq_true rfl) (zal hW) rfl dX8_due_6 (z_at 9 _ [.int v2] rfl rfl rfl ?_)
  refine z_if_ne 19 dX8_due_9 rfl (fun q4 => ?_) (fun q4 => ?_)
  · refine z_lconst dX8_due_19 zl_0 (z_lstore_n (lv' := [(2, .long (0 : Int64)), (0, .ref a0), (1, .int a1)]) dX8_due_20 (Nat.le_of_ble_eq_true rfl) rfl (z_iconst dX8_due_21 zi_0 (z_istore (lv' := [(4, .int (0 : Int32)), (2, .long (0 : Int64)), (0, .ref a0), (1, .int a1)]) dX8_due_22 (Nat.le_of_ble_eq_true rfl) rfl ?_)))
    refine z_sub (lv' := [(0, .ref a0), (1, .int a1), (2, .long (0 : Int64)), (4, .int (0 : Int32))]) [2, 3, 1, 0] rfl ?_
    refine z_pc (pc' := 24) rfl ?_
    exact m_X8_due_l24 hW w1 a0 h0 a1 ((0 : Int64), (0 : Int32))
  · refine z_aload_n 0 dX8_due_12 rfl (z_iconst dX8_due_13 zi_1 ?_)
    refine z_bind (fun r16 hb17 => ?_)
    refine z_callV (kc' := 0) (ks' := 0) (v := (some (.int r16.1))) (S1 := S) (w1 := r16.2) (st := []) [.int (1 : Int32)] (m_X8_fails hW w1 a0 h0 (1 : Int32) r16 hb17) zc8 h0 zy_X8_fails gw1215 gp27 gw1213 (Nat.le_of_ble_eq_true rfl) (Nat.le_of_ble_eq_true rfl) (Nat.le_of_ble_eq_true rfl) (Nat.le_of_ble_eq_true rfl) (zal hW) rfl dX8_due_14 (z_at 17 _ [.int r16.1] rfl rfl rfl ?_)
    refine z_i2l (v := (r16.1).toInt64) dX8_due_17 rfl ?_
    exact z_lret zemW rfl dX8_due_18

theorem m_X8_due {E : ZE} {S : Zs} (hW : zWF S) (w : Zw) (a0 : Nat) (h0 : zObj S a0 8) (a1 : Int32) : ∀ i, f_X8_due S w a0 a1 = some i → zMr E yX8_due cX8_due 5 ((some .long)) 3 0 0 [.ref a0, .int a1] S w ((emW eL S) i) :=
  fun i hi => z_enter (by decide +kernel) (Nat.le_of_ble_eq_true rfl) (mw_X8_due hW w a0 h0 a1 i hi)
/-! ParkingRobotModel.feed (C)I : W, depth 1 -/
abbrev i_X8_feed : Zm := (yX8_feed.cls, cX8_feed, 2, (some .int), [], yX8_feed.name)
def f_X8_feed (S : Zs) (w : Zw) (a0 : Nat) (a1 : Int32) : Option (Int32 × Zw) :=
  zlet (zput w a0 0 (0 : Int32)) fun w1 => if (w1 a0 24) = (60 : Int32) then (f_X8_fails S w1 a0 (1 : Int32)).bind fun r6 => some (r6.1, r6.2) else if zin (w1 a0 24) (zlen S (zr S a0 22)) = true then zlet (zput w1 (zr S a0 22) (zix (w1 a0 24)) a1) fun w4 => zlet (zput w4 a0 24 ((w4 a0 24) + (1 : Int32))) fun w5 => some ((w5 a0 24), w5) else none
theorem mw_X8_feed {E : ZE} {S : Zs} (hW : zWF S) (w : Zw) (a0 : Nat) (h0 : zObj S a0 8) (a1 : Int32) : zOk (E, i_X8_feed, 1) 0 0 S w 0 [(0, .ref a0), (1, .int a1)] [] (emW eI S) (f_X8_feed S w a0 a1) := by
  unfold f_X8_feed
  refine z_aload_n 0 dX8_feed_0 rfl (z_iconst dX8_feed_1 zi_0 ?_)
  refine z_putI zc8 0 (by decide) (Or.inl rfl) rfl gw1107 h0 dX8_feed_2 (z_letw (fun w1 => ?_))
  refine z_aload_n 0 dX8_feed_5 rfl (z_getI zc8 24 (by decide) rfl gw1131 h0 dX8_feed_6 (z_bipush dX8_feed_9 zb_60 ?_))
  refine z_icmp_ne 20 dX8_feed_11 rfl (fun q2 => ?_) (fun q2 => ?_)
  · refine z_aload_n 0 dX8_feed_20 rfl (z_getR zc8 22 (by decide) rfl gw1129 h0 (zW_some hW h0 22 rfl) dX8_feed_21 (z_aload_n 0 dX8_feed_24 rfl (z_getI zc8 24 (by decide) rfl gw1131 h0 dX8_feed_25 (z_iload_n 1 dX8_feed_28 rfl ?_))))
    refine z_chk (fun c3 => ?_)
    refine z_iast (zW_arr hW h0 22 0 rfl) c3 dX8_feed_29 (z_letw (fun w4 => ?_))
    refine z_aload_n 0 dX8_feed_30 rfl (z_dup dX8_feed_31 rfl (z_getI zc8 24 (by decide) rfl gw1131 h0 dX8_feed_32 (z_iconst dX8_feed_35 zi_1 (z_iadd dX8_feed_36 ?_))))
    refine z_putI zc8 24 (by decide) (Or.inl rfl) rfl gw1131 h0 dX8_feed_37 (z_letw (fun w5 => ?_))
    refine z_aload_n 0 dX8_feed_40 rfl (z_getI zc8 24 (by decide) rfl gw1131 h0 dX8_feed_41 ?_)
    exact z_iret zemW rfl dX8_feed_44
  · refine z_aload_n 0 dX8_feed_14 rfl (z_iconst dX8_feed_15 zi_1 ?_)
    refine z_bind (fun r6 hb7 => ?_)
    refine z_callV (kc' := 0) (ks' := 0) (v := (some (.int r6.1))) (S1 := S) (w1 := r6.2) (st := []) [.int (1 : Int32)] (m_X8_fails hW w1 a0 h0 (1 : Int32) r6 hb7) zc8 h0 zy_X8_fails gw1215 gp27 gw1213 (Nat.le_of_ble_eq_true rfl) (Nat.le_of_ble_eq_true rfl) (Nat.le_of_ble_eq_true rfl) (Nat.le_of_ble_eq_true rfl) (zal hW) rfl dX8_feed_16 (z_at 19 _ [.int r6.1] rfl rfl rfl ?_)
    exact z_iret zemW rfl dX8_feed_19

theorem m_X8_feed {E : ZE} {S : Zs} (hW : zWF S) (w : Zw) (a0 : Nat) (h0 : zObj S a0 8) (a1 : Int32) : ∀ i, f_X8_feed S w a0 a1 = some i → zMr E yX8_feed cX8_feed 2 ((some .int)) 1 0 0 [.ref a0, .int a1] S w ((emW eI S) i) :=
  fun i hi => z_enter (by decide +kernel) (Nat.le_of_ble_eq_true rfl) (mw_X8_feed hW w a0 h0 a1 i hi)
/-! ParkingRobotModel.isAhead (II)Z : P, depth 2 -/
abbrev i_X8_isAhead : Zm := (yX8_isAhead.cls, cX8_isAhead, 5, (some .boolean), [], yX8_isAhead.name)
def f_X8_isAhead (S : Zs) (w : Zw) (a0 : Nat) (a1 : Int32) (a2 : Int32) : Option (Int32) :=
  if zin ((79 : Int32) + a1) (zlen S (zr S a0 1)) = true then zlet (w (zr S a0 1) (zix ((79 : Int32) + a1))) fun z2 => if zin ((79 : Int32) + a2) (zlen S (zr S a0 1)) = true then zlet (w (zr S a0 1) (zix ((79 : Int32) + a2))) fun z4 => (f_X8_pickup S w a0 z2).bind fun v5 => (f_X8_pickup S w a0 z4).bind fun v7 => if v5 = v7 then (if z4 ≤ z2 then some (0 : Int32) else some (1 : Int32)) else (f_X8_pickup S w a0 z2).bind fun v11 => (f_X8_pickup S w a0 z4).bind fun v13 => if v13 ≤ v11 then some (0 : Int32) else some (1 : Int32) else none else none
theorem mw_X8_isAhead {E : ZE} {S : Zs} (hW : zWF S) (w : Zw) (a0 : Nat) (h0 : zObj S a0 8) (a1 : Int32) (a2 : Int32) : zOk (E, i_X8_isAhead, 2) 0 0 S w 0 [(0, .ref a0), (1, .int a1), (2, .int a2)] [] (emP eI S w) (f_X8_isAhead S w a0 a1 a2) := by
  unfold f_X8_isAhead
  refine z_aload_n 0 dX8_isAhead_0 rfl (z_getR zc8 1 (by decide) rfl gw1108 h0 (zW_some hW h0 1 rfl) dX8_isAhead_1 (z_bipush dX8_isAhead_4 zb_79 (z_iload_n 1 dX8_isAhead_6 rfl (z_iadd dX8_isAhead_7 ?_))))
  refine z_chk (fun c1 => ?_)
  refine z_iald (zW_arr hW h0 1 0 rfl) c1 dX8_isAhead_8 ?_
  refine z_let (a := (w (zr S a0 1) (zix ((79 : Int32) + a1)))) (fun z2 => [(0, .ref a0), (1, .int a1), (2, .int a2)]) (fun z2 => .int z2 :: []) (fun z2 => ?_)
  refine z_istore_n (lv' := [(3, .int z2), (0, .ref a0), (1, .int a1), (2, .int a2)]) dX8_isAhead_9 (Nat.le_of_ble_eq_true rfl) rfl (z_aload_n 1 dX8_isAhead_10 rfl (z_getR zc8 1 (by decide) rfl gw1108 h0 (zW_some hW h0 1 rfl) dX8_isAhead_11 (z_bipush dX8_isAhead_14 zb_79 (z_iload_n 3 dX8_isAhead_16 rfl (z_iadd dX8_isAhead_17 ?_)))))
  refine z_chk (fun c3 => ?_)
  refine z_iald (zW_arr hW h0 1 0 rfl) c3 dX8_isAhead_18 ?_
  refine z_let (a := (w (zr S a0 1) (zix ((79 : Int32) + a2)))) (fun z4 => [(3, .int z2), (0, .ref a0), (1, .int a1), (2, .int a2)]) (fun z4 => .int z4 :: []) (fun z4 => ?_)
  refine z_istore (lv' := [(4, .int z4), (3, .int z2), (0, .ref a0), (1, .int a1), (2, .int a2)]) dX8_isAhead_19 (Nat.le_of_ble_eq_true rfl) rfl (z_aload_n 2 dX8_isAhead_21 rfl (z_iload_n 1 dX8_isAhead_22 rfl ?_))
  refine z_bind (fun v5 hb6 => ?_)
  refine z_callV (kc' := 0) (ks' := 0) (v := (some (.int v5))) (S1 := S) (w1 := w) (st := []) [.int z2] (m_X8_pickup hW w a0 h0 z2 v5 hb6) zc8 h0 zy_X8_pickup gw1251 gp32 gw1249 (Nat.le_of_ble_eq_true rfl) (Nat.le_of_ble_eq_true rfl) (Nat.le_of_ble_eq_true rfl) (Nat.le_of_ble_eq_true rfl) (zal hW) rfl dX8_isAhead_23 (z_at 26 _ [.int v5] rfl rfl rfl ?_)
  refine z_aload_n 2 dX8_isAhead_26 rfl (z_iload 0 dX8_isAhead_27 rfl ?_)
  refine z_bind (fun v7 hb8 => ?_)
  refine z_callV (kc' := 0) (ks' := 0) (v := (some (.int v7))) (S1 := S) (w1 := w) (st := [.int v5]) [.int z4] (m_X8_pickup hW w a0 h0 z4 v7 hb8) zc8 h0 zy_X8_pickup gw1251 gp32 gw1249 (Nat.le_of_ble_eq_true rfl) (Nat.le_of_ble_eq_true rfl) (Nat.le_of_ble_eq_true rfl) (Nat.le_of_ble_eq_true rfl) (zal hW) rfl dX8_isAhead_29 (z_at 32 _ [.int v7, .int v5] rfl rfl rfl ?_)
  refine z_icmp_eq 57 dX8_isAhead_32 rfl (fun q9 => ?_) (fun q9 => ?_)
  · refine z_iload_n 1 dX8_isAhead_57 rfl (z_iload 0 dX8_isAhead_58 rfl ?_)
    refine z_icmp_ge 67 dX8_isAhead_60 rfl (fun q10 => ?_) (fun q10 => ?_)
    · refine z_iconst dX8_isAhead_67 zi_0 ?_
      exact z_zret zemP rfl rfl dX8_isAhead_68
    · refine z_iconst dX8_isAhead_63 zi_1 (z_goto 68 dX8_isAhead_64 rfl ?_)
      exact z_zret zemP rfl rfl dX8_isAhead_68
  · refine z_aload_n 2 dX8_isAhead_35 rfl (z_iload_n 1 dX8_isAhead_36 rfl ?_)
    refine z_bind (fun v11 hb12 => ?_)
    refine z_callV (kc' := 0) (ks' := 0) (v := (some (.int v11))) (S1 := S) (w1 := w) (st := []) [.int z2] (m_X8_pickup hW w a0 h0 z2 v11 hb12) zc8 h0 zy_X8_pickup gw1251 gp32 gw1249 (Nat.le_of_ble_eq_true rfl) (Nat.le_of_ble_eq_true rfl) (Nat.le_of_ble_eq_true rfl) (Nat.le_of_ble_eq_true rfl) (zal hW) rfl dX8_isAhead_37 (z_at 40 _ [.int v11] rfl rfl rfl ?_)
    refine z_aload_n 2 dX8_isAhead_40 rfl (z_iload 0 dX8_isAhead_41 rfl ?_)
    refine z_bind (fun v13 hb14 => ?_)
    refine z_callV (kc' := 0) (ks' := 0) (v := (some (.int v13))) (S1 := S) (w1 := w) (st := [.int v11]) [.int z4] (m_X8_pickup hW w a0 h0 z4 v13 hb14) zc8 h0 zy_X8_pickup gw1251 gp32 gw1249 (Nat.le_of_ble_eq_true rfl) (Nat.le_of_ble_eq_true rfl) (Nat.le_of_ble_eq_true rfl) (Nat.le_of_ble_eq_true rfl) (zal hW) rfl dX8_isAhead_43 (z_at 46 _ [.int v13, .int v11] rfl rfl rfl ?_)
    refine z_icmp_ge 53 dX8_isAhead_46 rfl (fun q15 => ?_) (fun q15 => ?_)
    · refine z_iconst dX8_isAhead_53 zi_0 (z_goto 68 dX8_isAhead_54 rfl ?_)
      exact z_zret zemP rfl rfl dX8_isAhead_68
    · refine z_iconst dX8_isAhead_49 zi_1 (z_goto 68 dX8_isAhead_50 rfl ?_)
      exact z_zret zemP rfl rfl dX8_isAhead_68

theorem m_X8_isAhead {E : ZE} {S : Zs} (hW : zWF S) (w : Zw) (a0 : Nat) (h0 : zObj S a0 8) (a1 : Int32) (a2 : Int32) : ∀ i, f_X8_isAhead S w a0 a1 a2 = some i → zMr E yX8_isAhead cX8_isAhead 5 ((some .boolean)) 2 0 0 [.ref a0, .int a1, .int a2] S w ((emP eI S w) i) :=
  fun i hi => z_enter (by decide +kernel) (Nat.le_of_ble_eq_true rfl) (mw_X8_isAhead hW w a0 h0 a1 a2 i hi)
/-! ParkingRobotModel.isWrong (I)Z : P, depth 2 -/
abbrev i_X8_isWrong : Zm := (yX8_isWrong.cls, cX8_isWrong, 2, (some .boolean), [], yX8_isWrong.name)
def f_X8_isWrong (S : Zs) (w : Zw) (a0 : Nat) (a1 : Int32) : Option (Int32) :=
  (f_X8_isEmpty S w a0 a1).bind fun v1 => if v1 = 0 then (f_X8_isEmpty S w a0 (a1 - (1 : Int32))).bind fun v4 => if v4 = 0 then (if zin ((79 : Int32) + a1) (zlen S (zr S a0 1)) = true then (f_X8_pickup S w a0 (w (zr S a0 1) (zix ((79 : Int32) + a1)))).bind fun v8 => if zin (((79 : Int32) + a1) - (1 : Int32)) (zlen S (zr S a0 1)) = true then (f_X8_pickup S w a0 (w (zr S a0 1) (zix (((79 : Int32) + a1) - (1 : Int32))))).bind fun v11 => if v11 ≤ v8 then some (0 : Int32) else some (1 : Int32) else none else none) else some (0 : Int32) else some (0 : Int32)
theorem mw_X8_isWrong {E : ZE} {S : Zs} (hW : zWF S) (w : Zw) (a0 : Nat) (h0 : zObj S a0 8) (a1 : Int32) : zOk (E, i_X8_isWrong, 2) 0 0 S w 0 [(0, .ref a0), (1, .int a1)] [] (emP eI S w) (f_X8_isWrong S w a0 a1) := by
  unfold f_X8_isWrong
  refine z_aload_n 0 dX8_isWrong_0 rfl (z_iload_n 1 dX8_isWrong_1 rfl ?_)
  refine z_bind (fun v1 hb2 => ?_)
  refine z_callV (kc' := 0) (ks' := 0) (v := (some (.int v1))) (S1 := S) (w1 := w) (st := []) [.int a1] (m_X8_isEmpty hW w a0 h0 a1 v1 hb2) zc8 h0 zy_X8_isEmpty gw1223 gp29 gw1221 (Nat.le_of_ble_eq_true rfl) (Nat.le_of_ble_eq_true rfl) (Nat.le_of_ble_eq_true rfl) (Nat.le_of_ble_eq_true rfl) (zal hW) rfl dX8_isWrong_2 (z_at 5 _ [.int v1] rfl rfl rfl ?_)
  refine z_if_ne 53 dX8_isWrong_5 rfl (fun q3 => ?_) (fun q3 => ?_)
  · refine z_iconst dX8_isWrong_53 zi_0 ?_
    exact z_zret zemP rfl rfl dX8_isWrong_54
  · refine z_aload_n 0 dX8_isWrong_8 rfl (z_iload_n 1 dX8_isWrong_9 rfl (z_iconst dX8_isWrong_10 zi_1 (z_isub dX8_isWrong_11 ?_)))
    refine z_bind (fun v4 hb5 => ?_)
    refine z_callV (kc' := 0) (ks' := 0) (v := (some (.int v4))) (S1 := S) (w1 := w) (st := []) [.int (a1 - (1 : Int32))] (m_X8_isEmpty hW w a0 h0 (a1 - (1 : Int32)) v4 hb5) zc8 h0 zy_X8_isEmpty gw1223 gp29 gw1221 (Nat.le_of_ble_eq_true rfl) (Nat.le_of_ble_eq_true rfl) (Nat.le_of_ble_eq_true rfl) (Nat.le_of_ble_eq_true rfl) (zal hW) rfl dX8_isWrong_12 (z_at 15 _ [.int v4] rfl rfl rfl ?_)
    refine z_if_ne 53 dX8_isWrong_15 rfl (fun q6 => ?_) (fun q6 => ?_)
    · refine z_iconst dX8_isWrong_53 zi_0 ?_
      exact z_zret zemP rfl rfl dX8_isWrong_54
    · refine z_aload_n 0 dX8_isWrong_18 rfl (z_aload_n 0 dX8_isWrong_19 rfl (z_getR zc8 1 (by decide) rfl gw1108 h0 (zW_some hW h0 1 rfl) dX8_isWrong_20 (z_bipush dX8_isWrong_23 zb_79 (z_iload_n 1 dX8_isWrong_25 rfl (z_iadd dX8_isWrong_26 ?_)))))
      refine z_chk (fun c7 => ?_)
      refine z_iald (zW_arr hW h0 1 0 rfl) c7 dX8_isWrong_27 ?_
      refine z_bind (fun v8 hb9 => ?_)
      refine z_callV (kc' := 0) (ks' := 0) (v := (some (.int v8))) (S1 := S) (w1 := w) (st := []) [.int (w (zr S a0 1) (zix ((79 : Int32) + a1)))] (m_X8_pickup hW w a0 h0 (w (zr S a0 1) (zix ((79 : Int32) + a1))) v8 hb9) zc8 h0 zy_X8_pickup gw1251 gp32 gw1249 (Nat.le_of_ble_eq_true rfl) (Nat.le_of_ble_eq_true rfl) (Nat.le_of_ble_eq_true rfl) (Nat.le_of_ble_eq_true rfl) (zal hW) rfl dX8_isWrong_28 (z_at 31 _ [.int v8] rfl rfl rfl ?_)
      refine z_aload_n 0 dX8_isWrong_31 rfl (z_aload_n 0 dX8_isWrong_32 rfl (z_getR zc8 1 (by decide) rfl gw1108 h0 (zW_some hW h0 1 rfl) dX8_isWrong_33 (z_bipush dX8_isWrong_36 zb_79 (z_iload_n 1 dX8_isWrong_38 rfl (z_iadd dX8_isWrong_39 ?_)))))
      refine z_iconst dX8_isWrong_40 zi_1 (z_isub dX8_isWrong_41 ?_)
      refine z_chk (fun c10 => ?_)
      refine z_iald (zW_arr hW h0 1 0 rfl) c10 dX8_isWrong_42 ?_
      refine z_bind (fun v11 hb12 => ?_)
      refine z_callV (kc' := 0) (ks' := 0) (v := (some (.int v11))) (S1 := S) (w1 := w) (st := [.int v8]) [.int (w (zr S a0 1) (zix (((79 : Int32) + a1) - (1 : Int32))))] (m_X8_pickup hW w a0 h0 (w (zr S a0 1) (zix (((79 : Int32) + a1) - (1 : Int32)))) v11 hb12) zc8 h0 zy_X8_pickup gw1251 gp32 gw1249 (Nat.le_of_ble_eq_true rfl) (Nat.le_of_ble_eq_true rfl) (Nat.le_of_ble_eq_true rfl) (Nat.le_of_ble_eq_true rfl) (zal hW) rfl dX8_isWrong_43 (z_at 46 _ [.int v11, .int v8] rfl rfl rfl ?_)
      refine z_icmp_ge 53 dX8_isWrong_46 rfl (fun q13 => ?_) (fun q13 => ?_)
      · refine z_iconst dX8_isWrong_53 zi_0 ?_
        exact z_zret zemP rfl rfl dX8_isWrong_54
      · refine z_iconst dX8_isWrong_49 zi_1 (z_goto 54 dX8_isWrong_50 rfl ?_)
        exact z_zret zemP rfl rfl dX8_isWrong_54

theorem m_X8_isWrong {E : ZE} {S : Zs} (hW : zWF S) (w : Zw) (a0 : Nat) (h0 : zObj S a0 8) (a1 : Int32) : ∀ i, f_X8_isWrong S w a0 a1 = some i → zMr E yX8_isWrong cX8_isWrong 2 ((some .boolean)) 2 0 0 [.ref a0, .int a1] S w ((emP eI S w) i) :=
  fun i hi => z_enter (by decide +kernel) (Nat.le_of_ble_eq_true rfl) (mw_X8_isWrong hW w a0 h0 a1 i hi)
/-! ParkingRobotModel.job (II)I : W, depth 1 -/
abbrev i_X8_job : Zm := (yX8_job.cls, cX8_job, 3, (some .int), [], yX8_job.name)
def f_X8_job (S : Zs) (w : Zw) (a0 : Nat) (a1 : Int32) (a2 : Int32) : Option (Int32 × Zw) :=
  zlet (zput w a0 0 (0 : Int32)) fun w1 => if zin (6 : Int32) (zlen S (zr S a0 1)) = true then (f_X8_in a1 (0 : Int32) ((w1 (zr S a0 1) (zix (6 : Int32))) - (1 : Int32))).bind fun v3 => if v3 = 0 then (f_X8_fails S w1 a0 (1 : Int32)).bind fun r12 => some (r12.1, r12.2) else (f_X8_in a2 (0 : Int32) (4 : Int32)).bind fun v6 => if v6 = 0 then (f_X8_fails S w1 a0 (2 : Int32)).bind fun r9 => some (r9.1, r9.2) else if zin (((299 : Int32) + ((5 : Int32) * a1)) + a2) (zlen S (zr S a0 1)) = true then some ((w1 (zr S a0 1) (zix (((299 : Int32) + ((5 : Int32) * a1)) + a2))), w1) else none else none
theorem mw_X8_job {E : ZE} {S : Zs} (hW : zWF S) (w : Zw) (a0 : Nat) (h0 : zObj S a0 8) (a1 : Int32) (a2 : Int32) : zOk (E, i_X8_job, 1) 0 0 S w 0 [(0, .ref a0), (1, .int a1), (2, .int a2)] [] (emW eI S) (f_X8_job S w a0 a1 a2) := by
  unfold f_X8_job
  refine z_aload_n 0 dX8_job_0 rfl (z_iconst dX8_job_1 zi_0 ?_)
  refine z_putI zc8 0 (by decide) (Or.inl rfl) rfl gw1107 h0 dX8_job_2 (z_letw (fun w1 => ?_))
  refine z_iload_n 1 dX8_job_5 rfl (z_iconst dX8_job_6 zi_0 (z_aload_n 0 dX8_job_7 rfl (z_getR zc8 1 (by decide) rfl gw1108 h0 (zW_some hW h0 1 rfl) dX8_job_8 (z_bipush dX8_job_11 zb_6 ?_))))
  refine z_chk (fun c2 => ?_)
  refine z_iald (zW_arr hW h0 1 0 rfl) c2 dX8_job_13 (z_iconst dX8_job_14 zi_1 (z_isub dX8_job_15 ?_))
  refine z_bind (fun v3 hb4 => ?_)
  refine z_callS (kc' := 0) (ks' := 0) (v := (some (.int v3))) (S1 := S) (w1 := w1) (st := []) [.int a1, .int (0 : Int32), .int ((w1 (zr S a0 1) (zix (6 : Int32))) - (1 : Int32))] (m_X8_in hW w1 a1 (0 : Int32) ((w1 (zr S a0 1) (zix (6 : Int32))) - (1 : Int32)) v3 hb4) zy_X8_in gw1208 gw1207 (Nat.le_of_ble_eq_true rfl) (Nat.le_of_ble_eq_true rfl) (Nat.le_of_ble_eq_true rfl) (Nat.le_of_ble_eq_true rfl) (zal hW) rfl dX8_job_16 (z_at 19 _ [.int v3] rfl rfl rfl ?_)
  refine z_if_ne 28 dX8_job_19 rfl (fun q5 => ?_) (fun q5 => ?_)
  · refine z_iload_n 2 dX8_job_28 rfl (z_iconst dX8_job_29 zi_0 (z_iconst dX8_job_30 zi_4 ?_))
    refine z_bind (fun v6 hb7 => ?_)
    refine z_callS (kc' := 0) (ks' := 0) (v := (some (.int v6))) (S1 := S) (w1 := w1) (st := []) [.int a2, .int (0 : Int32), .int (4 : Int32)] (m_X8_in hW w1 a2 (0 : Int32) (4 : Int32) v6 hb7) zy_X8_in gw1208 gw1207 (Nat.le_of_ble_eq_true rfl) (Nat.le_of_ble_eq_true rfl) (Nat.le_of_ble_eq_true rfl) (Nat.le_of_ble_eq_true rfl) (zal hW) rfl dX8_job_31 (z_at 34 _ [.int v6] rfl rfl rfl ?_)
    refine z_if_eq 54 dX8_job_34 rfl (fun q8 => ?_) (fun q8 => ?_)
    · refine z_aload_n 0 dX8_job_54 rfl (z_iconst dX8_job_55 zi_2 ?_)
      refine z_bind (fun r9 hb10 => ?_)
      refine z_callV (kc' := 0) (ks' := 0) (v := (some (.int r9.1))) (S1 := S) (w1 := r9.2) (st := []) [.int (2 : Int32)] (m_X8_fails hW w1 a0 h0 (2 : Int32) r9 hb10) zc8 h0 zy_X8_fails gw1215 gp27 gw1213 (Nat.le_of_ble_eq_true rfl) (Nat.le_of_ble_eq_true rfl) (Nat.le_of_ble_eq_true rfl) (Nat.le_of_ble_eq_true rfl) (zal hW) rfl dX8_job_56 (z_at 59 _ [.int r9.1] rfl rfl rfl ?_)
      exact z_iret zemW rfl dX8_job_59
    · refine z_aload_n 0 dX8_job_37 rfl (z_getR zc8 1 (by decide) rfl gw1108 h0 (zW_some hW h0 1 rfl) dX8_job_38 (z_sipush dX8_job_41 zs_299 (z_iconst dX8_job_44 zi_5 (z_iload_n 1 dX8_job_45 rfl (z_imul dX8_job_46 ?_)))))
      refine z_iadd dX8_job_47 (z_iload_n 2 dX8_job_48 rfl (z_iadd dX8_job_49 ?_))
      refine z_chk (fun c11 => ?_)
      refine z_iald (zW_arr hW h0 1 0 rfl) c11 dX8_job_50 (z_goto 59 dX8_job_51 rfl ?_)
      exact z_iret zemW rfl dX8_job_59
  · refine z_aload_n 0 dX8_job_22 rfl (z_iconst dX8_job_23 zi_1 ?_)
    refine z_bind (fun r12 hb13 => ?_)
    refine z_callV (kc' := 0) (ks' := 0) (v := (some (.int r12.1))) (S1 := S) (w1 := r12.2) (st := []) [.int (1 : Int32)] (m_X8_fails hW w1 a0 h0 (1 : Int32) r12 hb13) zc8 h0 zy_X8_fails gw1215 gp27 gw1213 (Nat.le_of_ble_eq_true rfl) (Nat.le_of_ble_eq_true rfl) (Nat.le_of_ble_eq_true rfl) (Nat.le_of_ble_eq_true rfl) (zal hW) rfl dX8_job_24 (z_at 27 _ [.int r12.1] rfl rfl rfl ?_)
    exact z_iret zemW rfl dX8_job_27

theorem m_X8_job {E : ZE} {S : Zs} (hW : zWF S) (w : Zw) (a0 : Nat) (h0 : zObj S a0 8) (a1 : Int32) (a2 : Int32) : ∀ i, f_X8_job S w a0 a1 a2 = some i → zMr E yX8_job cX8_job 3 ((some .int)) 1 0 0 [.ref a0, .int a1, .int a2] S w ((emW eI S) i) :=
  fun i hi => z_enter (by decide +kernel) (Nat.le_of_ble_eq_true rfl) (mw_X8_job hW w a0 h0 a1 a2 i hi)
/-! ParkingRobotModel.jobs ()I : P, depth 0 -/
abbrev i_X8_jobs : Zm := (yX8_jobs.cls, cX8_jobs, 1, (some .int), [], yX8_jobs.name)
def f_X8_jobs (S : Zs) (w : Zw) (a0 : Nat) : Option (Int32) :=
  if zin (6 : Int32) (zlen S (zr S a0 1)) = true then some (w (zr S a0 1) (zix (6 : Int32))) else none
theorem mw_X8_jobs {E : ZE} {S : Zs} (hW : zWF S) (w : Zw) (a0 : Nat) (h0 : zObj S a0 8) : zOk (E, i_X8_jobs, 0) 0 0 S w 0 [(0, .ref a0)] [] (emP eI S w) (f_X8_jobs S w a0) := by
  unfold f_X8_jobs
  refine z_aload_n 0 dX8_jobs_0 rfl (z_getR zc8 1 (by decide) rfl gw1108 h0 (zW_some hW h0 1 rfl) dX8_jobs_1 (z_bipush dX8_jobs_4 zb_6 ?_))
  refine z_chk (fun c1 => ?_)
  refine z_iald (zW_arr hW h0 1 0 rfl) c1 dX8_jobs_6 ?_
  exact z_iret zemP rfl dX8_jobs_7

theorem m_X8_jobs {E : ZE} {S : Zs} (hW : zWF S) (w : Zw) (a0 : Nat) (h0 : zObj S a0 8) : ∀ i, f_X8_jobs S w a0 = some i → zMr E yX8_jobs cX8_jobs 1 ((some .int)) 0 0 0 [.ref a0] S w ((emP eI S w) i) :=
  fun i hi => z_enter (by decide +kernel) (Nat.le_of_ble_eq_true rfl) (mw_X8_jobs hW w a0 h0 i hi)
/-! ParkingRobotModel.load (I)F : W, depth 1 -/
abbrev i_X8_load : Zm := (yX8_load.cls, cX8_load, 3, (some .float), [], yX8_load.name)
def f_X8_load (S : Zs) (w : Zw) (a0 : Nat) (a1 : Int32) : Option (UInt32 × Zw) :=
  zlet (zput w a0 0 (0 : Int32)) fun w1 => (f_X8_in a1 (0 : Int32) (3 : Int32)).bind fun v2 => if v2 = 0 then (f_X8_fails S w1 a0 (1 : Int32)).bind fun r12 => some ((FP.i2f r12.1), r12.2) else if zin (((7 : Int32) + ((3 : Int32) * a1)) + (1 : Int32)) (zlen S (zr S a0 1)) = true then zlet (w1 (zr S a0 1) (zix (((7 : Int32) + ((3 : Int32) * a1)) + (1 : Int32)))) fun z6 => if z6 = 0 then (f_X8_fails S w1 a0 (2 : Int32)).bind fun r10 => some ((FP.i2f r10.1), r10.2) else if zin (((7 : Int32) + ((3 : Int32) * a1)) + (2 : Int32)) (zlen S (zr S a0 1)) = true then if zn32 (FP.fdiv (FP.i2f (w1 (zr S a0 1) (zix (((7 : Int32) + ((3 : Int32) * a1)) + (2 : Int32))))) (FP.i2f z6)) = true then some ((FP.fdiv (FP.i2f (w1 (zr S a0 1) (zix (((7 : Int32) + ((3 : Int32) * a1)) + (2 : Int32))))) (FP.i2f z6)), w1) else none else none else none
theorem mw_X8_load {E : ZE} {S : Zs} (hW : zWF S) (w : Zw) (a0 : Nat) (h0 : zObj S a0 8) (a1 : Int32) : zOk (E, i_X8_load, 1) 0 0 S w 0 [(0, .ref a0), (1, .int a1)] [] (emW eF S) (f_X8_load S w a0 a1) := by
  unfold f_X8_load
  refine z_aload_n 0 dX8_load_0 rfl (z_iconst dX8_load_1 zi_0 ?_)
  refine z_putI zc8 0 (by decide) (Or.inl rfl) rfl gw1107 h0 dX8_load_2 (z_letw (fun w1 => ?_))
  refine z_iload_n 1 dX8_load_5 rfl (z_iconst dX8_load_6 zi_0 (z_iconst dX8_load_7 zi_3 ?_))
  refine z_bind (fun v2 hb3 => ?_)
  refine z_callS (kc' := 0) (ks' := 0) (v := (some (.int v2))) (S1 := S) (w1 := w1) (st := []) [.int a1, .int (0 : Int32), .int (3 : Int32)] (m_X8_in hW w1 a1 (0 : Int32) (3 : Int32) v2 hb3) zy_X8_in gw1208 gw1207 (Nat.le_of_ble_eq_true rfl) (Nat.le_of_ble_eq_true rfl) (Nat.le_of_ble_eq_true rfl) (Nat.le_of_ble_eq_true rfl) (zal hW) rfl dX8_load_8 (z_at 11 _ [.int v2] rfl rfl rfl ?_)
  refine z_if_ne 21 dX8_load_11 rfl (fun q4 => ?_) (fun q4 => ?_)
  · refine z_aload_n 0 dX8_load_21 rfl (z_getR zc8 1 (by decide) rfl gw1108 h0 (zW_some hW h0 1 rfl) dX8_load_22 (z_bipush dX8_load_25 zb_7 (z_iconst dX8_load_27 zi_3 (z_iload_n 1 dX8_load_28 rfl (z_imul dX8_load_29 ?_)))))
    refine z_iadd dX8_load_30 (z_iconst dX8_load_31 zi_1 (z_iadd dX8_load_32 ?_))
    refine z_chk (fun c5 => ?_)
    refine z_iald (zW_arr hW h0 1 0 rfl) c5 dX8_load_33 ?_
    refine z_let (a := (w1 (zr S a0 1) (zix (((7 : Int32) + ((3 : Int32) * a1)) + (1 : Int32))))) (fun z6 => [(0, .ref a0), (1, .int a1)]) (fun z6 => .int z6 :: []) (fun z6 => ?_)
    refine z_istore_n (lv' := [(2, .int z6), (0, .ref a0), (1, .int a1)]) dX8_load_34 (Nat.le_of_ble_eq_true rfl) rfl (z_iload_n 0 dX8_load_35 rfl ?_)
    refine z_if_ne 48 dX8_load_36 rfl (fun q7 => ?_) (fun q7 => ?_)
    · refine z_aload_n 1 dX8_load_48 rfl (z_getR zc8 1 (by decide) rfl gw1108 h0 (zW_some hW h0 1 rfl) dX8_load_49 (z_bipush dX8_load_52 zb_7 (z_iconst dX8_load_54 zi_3 (z_iload_n 2 dX8_load_55 rfl (z_imul dX8_load_56 ?_)))))
      refine z_iadd dX8_load_57 (z_iconst dX8_load_58 zi_2 (z_iadd dX8_load_59 ?_))
      refine z_chk (fun c8 => ?_)
      refine z_iald (zW_arr hW h0 1 0 rfl) c8 dX8_load_60 (z_i2f dX8_load_61 (z_iload_n 0 dX8_load_62 rfl (z_i2f dX8_load_63 ?_)))
      refine z_chk (fun c9 => ?_)
      refine z_fdiv dX8_load_64 (zn32_ok c9) ?_
      exact z_fret zemW rfl dX8_load_65
    · refine z_aload_n 1 dX8_load_39 rfl (z_iconst dX8_load_40 zi_2 ?_)
      refine z_bind (fun r10 hb11 => ?_)
      refine z_callV (kc' := 0) (ks' := 0) (v := (some (.int r10.1))) (S1 := S) (w1 := r10.2) (st := []) [.int (2 : Int32)] (m_X8_fails hW w1 a0 h0 (2 : Int32) r10 hb11) zc8 h0 zy_X8_fails gw1215 gp27 gw1213 (Nat.le_of_ble_eq_true rfl) (Nat.le_of_ble_eq_true rfl) (Nat.le_of_ble_eq_true rfl) (Nat.le_of_ble_eq_true rfl) (zal hW) rfl dX8_load_41 (z_at 44 _ [.int r10.1] rfl rfl rfl ?_)
      refine z_i2f dX8_load_44 (z_goto 65 dX8_load_45 rfl ?_)
      exact z_fret zemW rfl dX8_load_65
  · refine z_aload_n 0 dX8_load_14 rfl (z_iconst dX8_load_15 zi_1 ?_)
    refine z_bind (fun r12 hb13 => ?_)
    refine z_callV (kc' := 0) (ks' := 0) (v := (some (.int r12.1))) (S1 := S) (w1 := r12.2) (st := []) [.int (1 : Int32)] (m_X8_fails hW w1 a0 h0 (1 : Int32) r12 hb13) zc8 h0 zy_X8_fails gw1215 gp27 gw1213 (Nat.le_of_ble_eq_true rfl) (Nat.le_of_ble_eq_true rfl) (Nat.le_of_ble_eq_true rfl) (Nat.le_of_ble_eq_true rfl) (zal hW) rfl dX8_load_16 (z_at 19 _ [.int r12.1] rfl rfl rfl ?_)
    refine z_i2f dX8_load_19 ?_
    exact z_fret zemW rfl dX8_load_20

theorem m_X8_load {E : ZE} {S : Zs} (hW : zWF S) (w : Zw) (a0 : Nat) (h0 : zObj S a0 8) (a1 : Int32) : ∀ i, f_X8_load S w a0 a1 = some i → zMr E yX8_load cX8_load 3 ((some .float)) 1 0 0 [.ref a0, .int a1] S w ((emW eF S) i) :=
  fun i hi => z_enter (by decide +kernel) (Nat.le_of_ble_eq_true rfl) (mw_X8_load hW w a0 h0 a1 i hi)
/-! ParkingRobotModel.machine (II)I : W, depth 1 -/
abbrev i_X8_machine : Zm := (yX8_machine.cls, cX8_machine, 3, (some .int), [], yX8_machine.name)
def f_X8_machine (S : Zs) (w : Zw) (a0 : Nat) (a1 : Int32) (a2 : Int32) : Option (Int32 × Zw) :=
  zlet (zput w a0 0 (0 : Int32)) fun w1 => (f_X8_in a1 (0 : Int32) (3 : Int32)).bind fun v2 => if v2 = 0 then (f_X8_fails S w1 a0 (1 : Int32)).bind fun r11 => some (r11.1, r11.2) else (f_X8_in a2 (0 : Int32) (2 : Int32)).bind fun v5 => if v5 = 0 then (f_X8_fails S w1 a0 (2 : Int32)).bind fun r8 => some (r8.1, r8.2) else if zin (((7 : Int32) + ((3 : Int32) * a1)) + a2) (zlen S (zr S a0 1)) = true then some ((w1 (zr S a0 1) (zix (((7 : Int32) + ((3 : Int32) * a1)) + a2))), w1) else none
theorem mw_X8_machine {E : ZE} {S : Zs} (hW : zWF S) (w : Zw) (a0 : Nat) (h0 : zObj S a0 8) (a1 : Int32) (a2 : Int32) : zOk (E, i_X8_machine, 1) 0 0 S w 0 [(0, .ref a0), (1, .int a1), (2, .int a2)] [] (emW eI S) (f_X8_machine S w a0 a1 a2) := by
  unfold f_X8_machine
  refine z_aload_n 0 dX8_machine_0 rfl (z_iconst dX8_machine_1 zi_0 ?_)
  refine z_putI zc8 0 (by decide) (Or.inl rfl) rfl gw1107 h0 dX8_machine_2 (z_letw (fun w1 => ?_))
  refine z_iload_n 1 dX8_machine_5 rfl (z_iconst dX8_machine_6 zi_0 (z_iconst dX8_machine_7 zi_3 ?_))
  refine z_bind (fun v2 hb3 => ?_)
  refine z_callS (kc' := 0) (ks' := 0) (v := (some (.int v2))) (S1 := S) (w1 := w1) (st := []) [.int a1, .int (0 : Int32), .int (3 : Int32)] (m_X8_in hW w1 a1 (0 : Int32) (3 : Int32) v2 hb3) zy_X8_in gw1208 gw1207 (Nat.le_of_ble_eq_true rfl) (Nat.le_of_ble_eq_true rfl) (Nat.le_of_ble_eq_true rfl) (Nat.le_of_ble_eq_true rfl) (zal hW) rfl dX8_machine_8 (z_at 11 _ [.int v2] rfl rfl rfl ?_)
  refine z_if_ne 20 dX8_machine_11 rfl (fun q4 => ?_) (fun q4 => ?_)
  · refine z_iload_n 2 dX8_machine_20 rfl (z_iconst dX8_machine_21 zi_0 (z_iconst dX8_machine_22 zi_2 ?_))
    refine z_bind (fun v5 hb6 => ?_)
    refine z_callS (kc' := 0) (ks' := 0) (v := (some (.int v5))) (S1 := S) (w1 := w1) (st := []) [.int a2, .int (0 : Int32), .int (2 : Int32)] (m_X8_in hW w1 a2 (0 : Int32) (2 : Int32) v5 hb6) zy_X8_in gw1208 gw1207 (Nat.le_of_ble_eq_true rfl) (Nat.le_of_ble_eq_true rfl) (Nat.le_of_ble_eq_true rfl) (Nat.le_of_ble_eq_true rfl) (zal hW) rfl dX8_machine_23 (z_at 26 _ [.int v5] rfl rfl rfl ?_)
    refine z_if_eq 45 dX8_machine_26 rfl (fun q7 => ?_) (fun q7 => ?_)
    · refine z_aload_n 0 dX8_machine_45 rfl (z_iconst dX8_machine_46 zi_2 ?_)
      refine z_bind (fun r8 hb9 => ?_)
      refine z_callV (kc' := 0) (ks' := 0) (v := (some (.int r8.1))) (S1 := S) (w1 := r8.2) (st := []) [.int (2 : Int32)] (m_X8_fails hW w1 a0 h0 (2 : Int32) r8 hb9) zc8 h0 zy_X8_fails gw1215 gp27 gw1213 (Nat.le_of_ble_eq_true rfl) (Nat.le_of_ble_eq_true rfl) (Nat.le_of_ble_eq_true rfl) (Nat.le_of_ble_eq_true rfl) (zal hW) rfl dX8_machine_47 (z_at 50 _ [.int r8.1] rfl rfl rfl ?_)
      exact z_iret zemW rfl dX8_machine_50
    · refine z_aload_n 0 dX8_machine_29 rfl (z_getR zc8 1 (by decide) rfl gw1108 h0 (zW_some hW h0 1 rfl) dX8_machine_30 (z_bipush dX8_machine_33 zb_7 (z_iconst dX8_machine_35 zi_3 (z_iload_n 1 dX8_machine_36 rfl (z_imul dX8_machine_37 ?_)))))
      refine z_iadd dX8_machine_38 (z_iload_n 2 dX8_machine_39 rfl (z_iadd dX8_machine_40 ?_))
      refine z_chk (fun c10 => ?_)
      refine z_iald (zW_arr hW h0 1 0 rfl) c10 dX8_machine_41 (z_goto 50 dX8_machine_42 rfl ?_)
      exact z_iret zemW rfl dX8_machine_50
  · refine z_aload_n 0 dX8_machine_14 rfl (z_iconst dX8_machine_15 zi_1 ?_)
    refine z_bind (fun r11 hb12 => ?_)
    refine z_callV (kc' := 0) (ks' := 0) (v := (some (.int r11.1))) (S1 := S) (w1 := r11.2) (st := []) [.int (1 : Int32)] (m_X8_fails hW w1 a0 h0 (1 : Int32) r11 hb12) zc8 h0 zy_X8_fails gw1215 gp27 gw1213 (Nat.le_of_ble_eq_true rfl) (Nat.le_of_ble_eq_true rfl) (Nat.le_of_ble_eq_true rfl) (Nat.le_of_ble_eq_true rfl) (zal hW) rfl dX8_machine_16 (z_at 19 _ [.int r11.1] rfl rfl rfl ?_)
    exact z_iret zemW rfl dX8_machine_19

theorem m_X8_machine {E : ZE} {S : Zs} (hW : zWF S) (w : Zw) (a0 : Nat) (h0 : zObj S a0 8) (a1 : Int32) (a2 : Int32) : ∀ i, f_X8_machine S w a0 a1 a2 = some i → zMr E yX8_machine cX8_machine 3 ((some .int)) 1 0 0 [.ref a0, .int a1, .int a2] S w ((emW eI S) i) :=
  fun i hi => z_enter (by decide +kernel) (Nat.le_of_ble_eq_true rfl) (mw_X8_machine hW w a0 h0 a1 a2 i hi)
/-! ParkingRobotModel.meanJob ()D : W, depth 1 -/
abbrev i_X8_meanJob : Zm := (yX8_meanJob.cls, cX8_meanJob, 2, (some .double), [], yX8_meanJob.name)
def f_X8_meanJob (S : Zs) (w : Zw) (a0 : Nat) : Option (UInt64 × Zw) :=
  zlet (zput w a0 0 (0 : Int32)) fun w1 => if zin (1 : Int32) (zlen S (zr S a0 1)) = true then if zin (2 : Int32) (zlen S (zr S a0 1)) = true then if zin (3 : Int32) (zlen S (zr S a0 1)) = true then zlet (((w1 (zr S a0 1) (zix (1 : Int32))) + (w1 (zr S a0 1) (zix (2 : Int32)))) + (w1 (zr S a0 1) (zix (3 : Int32)))) fun z5 => if z5 = 0 then (f_X8_fails S w1 a0 (1 : Int32)).bind fun r9 => some ((FP.i2d r9.1), r9.2) else if zin (4 : Int32) (zlen S (zr S a0 1)) = true then if zn64 (FP.ddiv (FP.i2d (w1 (zr S a0 1) (zix (4 : Int32)))) (FP.i2d z5)) = true then some ((FP.ddiv (FP.i2d (w1 (zr S a0 1) (zix (4 : Int32)))) (FP.i2d z5)), w1) else none else none else none else none else none
theorem mw_X8_meanJob {E : ZE} {S : Zs} (hW : zWF S) (w : Zw) (a0 : Nat) (h0 : zObj S a0 8) : zOk (E, i_X8_meanJob, 1) 0 0 S w 0 [(0, .ref a0)] [] (emW eD S) (f_X8_meanJob S w a0) := by
  unfold f_X8_meanJob
  refine z_aload_n 0 dX8_meanJob_0 rfl (z_iconst dX8_meanJob_1 zi_0 ?_)
  refine z_putI zc8 0 (by decide) (Or.inl rfl) rfl gw1107 h0 dX8_meanJob_2 (z_letw (fun w1 => ?_))
  refine z_aload_n 0 dX8_meanJob_5 rfl (z_getR zc8 1 (by decide) rfl gw1108 h0 (zW_some hW h0 1 rfl) dX8_meanJob_6 (z_iconst dX8_meanJob_9 zi_1 ?_))
  refine z_chk (fun c2 => ?_)
  refine z_iald (zW_arr hW h0 1 0 rfl) c2 dX8_meanJob_10 (z_aload_n 0 dX8_meanJob_11 rfl (z_getR zc8 1 (by decide) rfl gw1108 h0 (zW_some hW h0 1 rfl) dX8_meanJob_12 (z_iconst dX8_meanJob_15 zi_2 ?_)))
  refine z_chk (fun c3 => ?_)
  refine z_iald (zW_arr hW h0 1 0 rfl) c3 dX8_meanJob_16 (z_iadd dX8_meanJob_17 (z_aload_n 0 dX8_meanJob_18 rfl (z_getR zc8 1 (by decide) rfl gw1108 h0 (zW_some hW h0 1 rfl) dX8_meanJob_19 (z_iconst dX8_meanJob_22 zi_3 ?_))))
  refine z_chk (fun c4 => ?_)
  refine z_iald (zW_arr hW h0 1 0 rfl) c4 dX8_meanJob_23 (z_iadd dX8_meanJob_24 ?_)
  refine z_let (a := (((w1 (zr S a0 1) (zix (1 : Int32))) + (w1 (zr S a0 1) (zix (2 : Int32)))) + (w1 (zr S a0 1) (zix (3 : Int32))))) (fun z5 => [(0, .ref a0)]) (fun z5 => .int z5 :: []) (fun z5 => ?_)
  refine z_istore_n (lv' := [(1, .int z5), (0, .ref a0)]) dX8_meanJob_25 (Nat.le_of_ble_eq_true rfl) rfl (z_iload_n 0 dX8_meanJob_26 rfl ?_)
  refine z_if_ne 39 dX8_meanJob_27 rfl (fun q6 => ?_) (fun q6 => ?_)
  · refine z_aload_n 1 dX8_meanJob_39 rfl (z_getR zc8 1 (by decide) rfl gw1108 h0 (zW_some hW h0 1 rfl) dX8_meanJob_40 (z_iconst dX8_meanJob_43 zi_4 ?_))
    refine z_chk (fun c7 => ?_)
    refine z_iald (zW_arr hW h0 1 0 rfl) c7 dX8_meanJob_44 (z_i2d dX8_meanJob_45 (z_iload_n 0 dX8_meanJob_46 rfl (z_i2d dX8_meanJob_47 ?_)))
    refine z_chk (fun c8 => ?_)
    refine z_ddiv dX8_meanJob_48 (zn64_ok c8) ?_
    exact z_dret zemW rfl dX8_meanJob_49
  · refine z_aload_n 1 dX8_meanJob_30 rfl (z_iconst dX8_meanJob_31 zi_1 ?_)
    refine z_bind (fun r9 hb10 => ?_)
    refine z_callV (kc' := 0) (ks' := 0) (v := (some (.int r9.1))) (S1 := S) (w1 := r9.2) (st := []) [.int (1 : Int32)] (m_X8_fails hW w1 a0 h0 (1 : Int32) r9 hb10) zc8 h0 zy_X8_fails gw1215 gp27 gw1213 (Nat.le_of_ble_eq_true rfl) (Nat.le_of_ble_eq_true rfl) (Nat.le_of_ble_eq_true rfl) (Nat.le_of_ble_eq_true rfl) (zal hW) rfl dX8_meanJob_32 (z_at 35 _ [.int r9.1] rfl rfl rfl ?_)
    refine z_i2d dX8_meanJob_35 (z_goto 49 dX8_meanJob_36 rfl ?_)
    exact z_dret zemW rfl dX8_meanJob_49

theorem m_X8_meanJob {E : ZE} {S : Zs} (hW : zWF S) (w : Zw) (a0 : Nat) (h0 : zObj S a0 8) : ∀ i, f_X8_meanJob S w a0 = some i → zMr E yX8_meanJob cX8_meanJob 2 ((some .double)) 1 0 0 [.ref a0] S w ((emW eD S) i) :=
  fun i hi => z_enter (by decide +kernel) (Nat.le_of_ble_eq_true rfl) (mw_X8_meanJob hW w a0 h0 i hi)
/-! ParkingRobotModel.pass (I)I : W, depth 2 -/
abbrev i_X8_pass : Zm := (yX8_pass.cls, cX8_pass, 2, (some .int), [], yX8_pass.name)
def f_X8_pass (S : Zs) (w : Zw) (a0 : Nat) (a1 : Int32) : Option (Int32 × Zw) :=
  (f_X8_begins S w a0).bind fun r1 => (f_X8_passes S r1.2 a0 a1).bind fun r3 => (f_X8_ends S r3.2 a0 r3.1).bind fun r5 => some (r5.1, r5.2)
theorem mw_X8_pass {E : ZE} {S : Zs} (hW : zWF S) (w : Zw) (a0 : Nat) (h0 : zObj S a0 8) (a1 : Int32) : zOk (E, i_X8_pass, 2) 0 0 S w 0 [(0, .ref a0), (1, .int a1)] [] (emW eI S) (f_X8_pass S w a0 a1) := by
  unfold f_X8_pass
  refine z_aload_n 0 dX8_pass_0 rfl ?_
  refine z_bind (fun r1 hb2 => ?_)
  refine z_callV (kc' := 0) (ks' := 0) (v := none) (S1 := S) (w1 := r1.2) (st := []) [] (m_X8_begins hW w a0 h0 r1 hb2) zc8 h0 zy_X8_begins gw1195 gp25 gw1193 (Nat.le_of_ble_eq_true rfl) (Nat.le_of_ble_eq_true rfl) (Nat.le_of_ble_eq_true rfl) (Nat.le_of_ble_eq_true rfl) (zal hW) rfl dX8_pass_1 (z_at 4 _ [] rfl rfl rfl ?_)
  refine z_aload_n 0 dX8_pass_4 rfl (z_aload_n 0 dX8_pass_5 rfl (z_iload_n 1 dX8_pass_6 rfl ?_))
  refine z_bind (fun r3 hb4 => ?_)
  refine z_callV (kc' := 0) (ks' := 0) (v := (some (.int r3.1))) (S1 := S) (w1 := r3.2) (st := [.ref a0]) [.int a1] (m_X8_passes hW r1.2 a0 h0 a1 r3 hb4) zc8 h0 zy_X8_passes gw1436 gp59 gw1434 (Nat.le_of_ble_eq_true rfl) (Nat.le_of_ble_eq_true rfl) (Nat.le_of_ble_eq_true rfl) (Nat.le_of_ble_eq_true rfl) (zal hW) rfl dX8_pass_7 (z_at 10 _ [.int r3.1, .ref a0] rfl rfl rfl ?_)
  refine z_bind (fun r5 hb6 => ?_)
  refine z_callV (kc' := 0) (ks' := 0) (v := (some (.int r5.1))) (S1 := S) (w1 := r5.2) (st := []) [.int r3.1] (m_X8_ends hW r3.2 a0 h0 r3.1 r5 hb6) zc8 h0 zy_X8_ends gw1289 gp40 gw1287 (Nat.le_of_ble_eq_true rfl) (Nat.le_of_ble_eq_true rfl) (Nat.le_of_ble_eq_true rfl) (Nat.le_of_ble_eq_true rfl) (zal hW) rfl dX8_pass_10 (z_at 13 _ [.int r5.1] rfl rfl rfl ?_)
  exact z_iret zemW rfl dX8_pass_13

theorem m_X8_pass {E : ZE} {S : Zs} (hW : zWF S) (w : Zw) (a0 : Nat) (h0 : zObj S a0 8) (a1 : Int32) : ∀ i, f_X8_pass S w a0 a1 = some i → zMr E yX8_pass cX8_pass 2 ((some .int)) 2 0 0 [.ref a0, .int a1] S w ((emW eI S) i) :=
  fun i hi => z_enter (by decide +kernel) (Nat.le_of_ble_eq_true rfl) (mw_X8_pass hW w a0 h0 a1 i hi)
/-! ParkingRobotModel.perform ()I : W, depth 12 -/
abbrev i_X8_perform : Zm := (yX8_perform.cls, cX8_perform, 4, (some .int), [], yX8_perform.name)
def f_X8_perform_b72 (S : Zs) (x0 : Nat) (k : (Int32 × Zw) → Option (Int32 × Zw)) (x2 : Int32) (w : Zw) : Option (Int32 × Zw) :=
  if (w x0 24) ≤ (w x0 25) then (zlet (zput w x0 24 (0 : Int32)) fun w11 => (f_X8_ends S w11 x0 x2).bind fun r12 => some (r12.1, r12.2)) else (f_X8_command S w x0).bind fun r14 => (f_X8_carriesOut S r14.2 x0 r14.1).bind fun r16 => if (r16.2 x0 0) = 0 then k ((x2 + (1 : Int32)), r16.2) else (f_X8_copies S r16.2 (zr S x0 2) (0 : Int32) (zr S x0 1) (0 : Int32)).bind fun r19 => zlet (zput r19.2 x0 24 (0 : Int32)) fun w21 => (f_X8_fails S w21 x0 (1 : Int32)).bind fun r22 => some (r22.1, r22.2)
def f_X8_perform_l72 (S : Zs) (x0 : Nat) (a : Int32 × Zw) : Option (Int32 × Zw) :=
  zlp (fun k a => f_X8_perform_b72 S x0 k a.1 a.2) zFU a
theorem m_X8_perform_l72 {E : ZE} {S : Zs} (hW : zWF S) (x0 : Nat) (hx0 : zObj S x0 8) : ∀ a : Int32 × Zw, zOk (E, i_X8_perform, 12) 0 0 S a.2 72 [(0, .ref x0), (2, .int a.1)] [] (emW eI S) (f_X8_perform_l72 S x0 a) := by
  intro a
  refine z_lp (P := fun _ => True) (W9 := fun a : Int32 × Zw => a.2) (L9 := fun a : Int32 × Zw => [(0, .ref x0), (2, .int a.1)]) (T9 := fun _ => []) (fun k hk9 a _ => ?_) zFU a trivial
  have hk : ∀ a : Int32 × Zw, zOk (E, i_X8_perform, 12) 0 0 S a.2 72 [(0, .ref x0), (2, .int a.1)] [] (emW eI S) (k a) := fun a => hk9 a trivial
  clear hk9
  obtain ⟨x2, w⟩ := a
  show zOk (E, i_X8_perform, 12) 0 0 S w 72 [(0, .ref x0), (2, .int x2)] [] (emW eI S) (f_X8_perform_b72 S x0 k x2 w)
  unfold f_X8_perform_b72
  refine z_aload_n 0 dX8_perform_72 rfl (z_getI zc8 25 (by decide) rfl gw1132 hx0 dX8_perform_73 (z_aload_n 0 dX8_perform_76 rfl (z_getI zc8 24 (by decide) rfl gw1131 hx0 dX8_perform_77 ?_)))
  refine z_icmp_ge 131 dX8_perform_80 rfl (fun q10 => ?_) (fun q10 => ?_)
  · refine z_aload_n 0 dX8_perform_131 rfl (z_iconst dX8_perform_132 zi_0 ?_)
    refine z_putI zc8 24 (by decide) (Or.inl rfl) rfl gw1131 hx0 dX8_perform_133 (z_letw (fun w11 => ?_))
    refine z_aload_n 0 dX8_perform_136 rfl (z_iload_n 1 dX8_perform_137 rfl ?_)
    refine z_bind (fun r12 hb13 => ?_)
    refine z_callV (kc' := 0) (ks' := 0) (v := (some (.int r12.1))) (S1 := S) (w1 := r12.2) (st := []) [.int x2] (m_X8_ends hW w11 x0 hx0 x2 r12 hb13) zc8 hx0 zy_X8_ends gw1289 gp40 gw1287 (Nat.le_of_ble_eq_true rfl) (Nat.le_of_ble_eq_true rfl) (Nat.le_of_ble_eq_true rfl) (Nat.le_of_ble_eq_true rfl) (zal hW) rfl dX8_perform_138 (z_at 141 _ [.int r12.1] rfl rfl rfl ?_)
    exact z_iret zemW rfl dX8_perform_141
  · refine z_aload_n 0 dX8_perform_83 rfl ?_
    refine z_bind (fun r14 hb15 => ?_)
    refine z_callV (kc' := 0) (ks' := 0) (v := (some (.int r14.1))) (S1 := S) (w1 := r14.2) (st := []) [] (m_X8_command hW w x0 hx0 r14 hb15) zc8 hx0 zy_X8_command gw1476 gp60 gw1474 (Nat.le_of_ble_eq_true rfl) (Nat.le_of_ble_eq_true rfl) (Nat.le_of_ble_eq_true rfl) (Nat.le_of_ble_eq_true rfl) (zal hW) rfl dX8_perform_84 (z_at 87 _ [.int r14.1] rfl rfl rfl ?_)
    refine z_istore_n (lv' := [(1, .int r14.1), (0, .ref x0), (2, .int x2)]) dX8_perform_87 (Nat.le_of_ble_eq_true rfl) rfl (z_aload_n 1 dX8_perform_88 rfl (z_iload_n 0 dX8_perform_89 rfl ?_))
    refine z_bind (fun r16 hb17 => ?_)
    refine z_callV (kc' := 0) (ks' := 0) (v := (some (.int r16.1))) (S1 := S) (w1 := r16.2) (st := []) [.int r14.1] (m_X8_carriesOut hW r14.2 x0 hx0 r14.1 r16 hb17) zc8 hx0 zy_X8_carriesOut gw1492 gp64 gw1490 (Nat.le_of_ble_eq_true rfl) (Nat.le_of_ble_eq_true rfl) (Nat.le_of_ble_eq_true rfl) (Nat.le_of_ble_eq_true rfl) (zal hW) rfl dX8_perform_90 (z_at 93 _ [.int r16.1] rfl rfl rfl ?_)
    refine z_istore_n (lv' := [(3, .int r16.1), (1, .int r14.1), (0, .ref x0), (2, .int x2)]) dX8_perform_93 (Nat.le_of_ble_eq_true rfl) rfl (z_aload_n 2 dX8_perform_94 rfl (z_getI zc8 0 (by decide) rfl gw1107 hx0 dX8_perform_95 ?_))
    refine z_if_eq 125 dX8_perform_98 rfl (fun q18 => ?_) (fun q18 => ?_)
    · refine z_iinc (v := (x2 + (1 : Int32))) (lv' := [(2, .int (x2 + (1 : Int32))), (3, .int r16.1), (1, .int r14.1), (0, .ref x0)]) 3 dX8_perform_125 rfl (zi_inc _ zi_1) (Nat.le_of_ble_eq_true rfl) rfl (z_goto 72 dX8_perform_128 rfl ?_)
      refine z_sub (lv' := [(0, .ref x0), (2, .int (x2 + (1 : Int32)))]) [3, 0] rfl ?_
      refine z_pc (pc' := 72) rfl ?_
      exact hk ((x2 + (1 : Int32)), r16.2)
    · refine z_aload_n 2 dX8_perform_101 rfl (z_getR zc8 2 (by decide) rfl gw1109 hx0 (zW_some hW hx0 2 rfl) dX8_perform_102 (z_iconst dX8_perform_105 zi_0 (z_aload_n 2 dX8_perform_106 rfl (z_getR zc8 1 (by decide) rfl gw1108 hx0 (zW_some hW hx0 1 rfl) dX8_perform_107 (z_iconst dX8_perform_110 zi_0 ?_)))))
      refine z_bind (fun r19 hb20 => ?_)
      refine z_callS (kc' := 0) (ks' := 0) (v := none) (S1 := S) (w1 := r19.2) (st := []) [.ref (zr S x0 2), .int (0 : Int32), .ref (zr S x0 1), .int (0 : Int32)] (m_X8_copies hW r16.2 (zr S x0 2) (zW_arr hW hx0 2 0 rfl) (0 : Int32) (zr S x0 1) (zW_arr hW hx0 1 0 rfl) (0 : Int32) r19 hb20) zy_X8_copies gw1198 gw1197 (Nat.le_of_ble_eq_true rfl) (Nat.le_of_ble_eq_true rfl) (Nat.le_of_ble_eq_true rfl) (Nat.le_of_ble_eq_true rfl) (zal hW) rfl dX8_perform_111 (z_at 114 _ [] rfl rfl rfl ?_)
      refine z_aload_n 2 dX8_perform_114 rfl (z_iconst dX8_perform_115 zi_0 ?_)
      refine z_putI zc8 24 (by decide) (Or.inl rfl) rfl gw1131 hx0 dX8_perform_116 (z_letw (fun w21 => ?_))
      refine z_aload_n 2 dX8_perform_119 rfl (z_iconst dX8_perform_120 zi_1 ?_)
      refine z_bind (fun r22 hb23 => ?_)
      refine z_callV (kc' := 0) (ks' := 0) (v := (some (.int r22.1))) (S1 := S) (w1 := r22.2) (st := []) [.int (1 : Int32)] (m_X8_fails hW w21 x0 hx0 (1 : Int32) r22 hb23) zc8 hx0 zy_X8_fails gw1215 gp27 gw1213 (Nat.le_of_ble_eq_true rfl) (Nat.le_of_ble_eq_true rfl) (Nat.le_of_ble_eq_true rfl) (Nat.le_of_ble_eq_true rfl) (zal hW) rfl dX8_perform_121 (z_at 124 _ [.int r22.1] rfl rfl rfl ?_)
      exact z_iret zemW rfl dX8_perform_124

def f_X8_perform_j45 (S : Zs) (w : Zw) (x0 : Nat) : Option (Int32 × Zw) :=
  if (w x0 26) = 0 then (zlet (zput w x0 25 (0 : Int32)) fun w9 => f_X8_perform_l72 S x0 ((0 : Int32), w9)) else (zlet (zput w x0 24 (0 : Int32)) fun w24 => some (((-100 : Int32) - (w24 x0 25)), w24))
theorem m_X8_perform_j45 {E : ZE} {S : Zs} (hW : zWF S) (w : Zw) (x0 : Nat) (hx0 : zObj S x0 8) : zOk (E, i_X8_perform, 12) 0 0 S w 45 [(0, .ref x0)] [] (emW eI S) (f_X8_perform_j45 S w x0) := by
  unfold f_X8_perform_j45
  refine z_aload_n 0 dX8_perform_45 rfl (z_getI zc8 26 (by decide) rfl gw1133 hx0 dX8_perform_46 ?_)
  refine z_if_eq 65 dX8_perform_49 rfl (fun q8 => ?_) (fun q8 => ?_)
  · refine z_aload_n 0 dX8_perform_65 rfl (z_iconst dX8_perform_66 zi_0 ?_)
    refine z_putI zc8 25 (by decide) (Or.inl rfl) rfl gw1132 hx0 dX8_perform_67 (z_letw (fun w9 => ?_))
    refine z_iconst dX8_perform_70 zi_0 (z_istore_n (lv' := [(2, .int (0 : Int32)), (0, .ref x0)]) dX8_perform_71 (Nat.le_of_ble_eq_true rfl) rfl ?_)
    refine z_sub (lv' := [(0, .ref x0), (2, .int (0 : Int32))]) [1, 0] rfl ?_
    refine z_pc (pc' := 72) rfl ?_
    exact m_X8_perform_l72 hW x0 hx0 ((0 : Int32), w9)
  · refine z_aload_n 0 dX8_perform_52 rfl (z_iconst dX8_perform_53 zi_0 ?_)
    refine z_putI zc8 24 (by decide) (Or.inl rfl) rfl gw1131 hx0 dX8_perform_54 (z_letw (fun w24 => ?_))
    refine z_bipush dX8_perform_57 zb_m100 (z_aload_n 0 dX8_perform_59 rfl (z_getI zc8 25 (by decide) rfl gw1132 hx0 dX8_perform_60 (z_isub dX8_perform_63 ?_)))
    exact z_iret zemW rfl dX8_perform_64

def f_X8_perform_b19 (S : Zs) (x0 : Nat) (k : (Zw) → Option (Int32 × Zw)) (w : Zw) : Option (Int32 × Zw) :=
  if (w x0 26) = 0 then (if (w x0 24) ≤ (w x0 25) then f_X8_perform_j45 S w x0  else (f_X8_command S w x0).bind fun r26 => k (r26.2)) else f_X8_perform_j45 S w x0 
def f_X8_perform_l19 (S : Zs) (x0 : Nat) (a : Zw) : Option (Int32 × Zw) :=
  zlp (fun k a => f_X8_perform_b19 S x0 k a) zFU a
theorem m_X8_perform_l19 {E : ZE} {S : Zs} (hW : zWF S) (x0 : Nat) (hx0 : zObj S x0 8) : ∀ a : Zw, zOk (E, i_X8_perform, 12) 0 0 S a 19 [(0, .ref x0)] [] (emW eI S) (f_X8_perform_l19 S x0 a) := by
  intro a
  refine z_lp (P := fun _ => True) (W9 := fun a : Zw => a) (L9 := fun a : Zw => [(0, .ref x0)]) (T9 := fun _ => []) (fun k hk9 a _ => ?_) zFU a trivial
  have hk : ∀ a : Zw, zOk (E, i_X8_perform, 12) 0 0 S a 19 [(0, .ref x0)] [] (emW eI S) (k a) := fun a => hk9 a trivial
  clear hk9
  revert a; intro w
  show zOk (E, i_X8_perform, 12) 0 0 S w 19 [(0, .ref x0)] [] (emW eI S) (f_X8_perform_b19 S x0 k w)
  unfold f_X8_perform_b19
  refine z_aload_n 0 dX8_perform_19 rfl (z_getI zc8 26 (by decide) rfl gw1133 hx0 dX8_perform_20 ?_)
  refine z_if_ne 45 dX8_perform_23 rfl (fun q7 => ?_) (fun q7 => ?_)
  · refine z_pc (pc' := 45) rfl ?_
    exact m_X8_perform_j45 hW w x0 hx0 
  · refine z_aload_n 0 dX8_perform_26 rfl (z_getI zc8 25 (by decide) rfl gw1132 hx0 dX8_perform_27 (z_aload_n 0 dX8_perform_30 rfl (z_getI zc8 24 (by decide) rfl gw1131 hx0 dX8_perform_31 ?_)))
    refine z_icmp_ge 45 dX8_perform_34 rfl (fun q25 => ?_) (fun q25 => ?_)
    · refine z_pc (pc' := 45) rfl ?_
      exact m_X8_perform_j45 hW w x0 hx0 
    · refine z_aload_n 0 dX8_perform_37 rfl ?_
      refine z_bind (fun r26 hb27 => ?_)
      refine z_callV (kc' := 0) (ks' := 0) (v := (some (.int r26.1))) (S1 := S) (w1 := r26.2) (st := []) [] (m_X8_command hW w x0 hx0 r26 hb27) zc8 hx0 zy_X8_command gw1476 gp60 gw1474 (Nat.le_of_ble_eq_true rfl) (Nat.le_of_ble_eq_true rfl) (Nat.le_of_ble_eq_true rfl) (Nat.le_of_ble_eq_true rfl) (zal hW) rfl dX8_perform_38 (z_at 41 _ [.int r26.1] rfl rfl rfl ?_)
      refine z_istore_n (lv' := [(1, .int r26.1), (0, .ref x0)]) dX8_perform_41 (Nat.le_of_ble_eq_true rfl) rfl (z_goto 19 dX8_perform_42 rfl ?_)
      refine z_sub (lv' := [(0, .ref x0)]) [1] rfl ?_
      refine z_pc (pc' := 19) rfl ?_
      exact hk (r26.2)

def f_X8_perform (S : Zs) (w : Zw) (a0 : Nat) : Option (Int32 × Zw) :=
  (f_X8_begins S w a0).bind fun r1 => zlet (zput r1.2 a0 25 (0 : Int32)) fun w3 => zlet (zput w3 a0 26 (0 : Int32)) fun w4 => (f_X8_command S w4 a0).bind fun r5 => f_X8_perform_l19 S a0 (r5.2)
theorem mw_X8_perform {E : ZE} {S : Zs} (hW : zWF S) (w : Zw) (a0 : Nat) (h0 : zObj S a0 8) : zOk (E, i_X8_perform, 12) 0 0 S w 0 [(0, .ref a0)] [] (emW eI S) (f_X8_perform S w a0) := by
  unfold f_X8_perform
  refine z_aload_n 0 dX8_perform_0 rfl ?_
  refine z_bind (fun r1 hb2 => ?_)
  refine z_callV (kc' := 0) (ks' := 0) (v := none) (S1 := S) (w1 := r1.2) (st := []) [] (m_X8_begins hW w a0 h0 r1 hb2) zc8 h0 zy_X8_begins gw1195 gp25 gw1193 (Nat.le_of_ble_eq_true rfl) (Nat.le_of_ble_eq_true rfl) (Nat.le_of_ble_eq_true rfl) (Nat.le_of_ble_eq_true rfl) (zal hW) rfl dX8_perform_1 (z_at 4 _ [] rfl rfl rfl ?_)
  refine z_aload_n 0 dX8_perform_4 rfl (z_iconst dX8_perform_5 zi_0 ?_)
  refine z_putI zc8 25 (by decide) (Or.inl rfl) rfl gw1132 h0 dX8_perform_6 (z_letw (fun w3 => ?_))
  refine z_aload_n 0 dX8_perform_9 rfl (z_iconst dX8_perform_10 zi_0 ?_)
  refine z_putI zc8 26 (by decide) (Or.inr ⟨rfl, Or.inl rfl⟩) rfl gw1133 h0 dX8_perform_11 (z_letw (fun w4 => ?_))
  refine z_aload_n 0 dX8_perform_14 rfl ?_
  refine z_bind (fun r5 hb6 => ?_)
  refine z_callV (kc' := 0) (ks' := 0) (v := (some (.int r5.1))) (S1 := S) (w1 := r5.2) (st := []) [] (m_X8_command hW w4 a0 h0 r5 hb6) zc8 h0 zy_X8_command gw1476 gp60 gw1474 (Nat.le_of_ble_eq_true rfl) (Nat.le_of_ble_eq_true rfl) (Nat.le_of_ble_eq_true rfl) (Nat.le_of_ble_eq_true rfl) (zal hW) rfl dX8_perform_15 (z_at 18 _ [.int r5.1] rfl rfl rfl ?_)
  refine z_istore_n (lv' := [(1, .int r5.1), (0, .ref a0)]) dX8_perform_18 (Nat.le_of_ble_eq_true rfl) rfl ?_
  refine z_sub (lv' := [(0, .ref a0)]) [1] rfl ?_
  refine z_pc (pc' := 19) rfl ?_
  exact m_X8_perform_l19 hW a0 h0 (r5.2)

theorem m_X8_perform {E : ZE} {S : Zs} (hW : zWF S) (w : Zw) (a0 : Nat) (h0 : zObj S a0 8) : ∀ i, f_X8_perform S w a0 = some i → zMr E yX8_perform cX8_perform 4 ((some .int)) 12 0 0 [.ref a0] S w ((emW eI S) i) :=
  fun i hi => z_enter (by decide +kernel) (Nat.le_of_ble_eq_true rfl) (mw_X8_perform hW w a0 h0 i hi)
/-! ParkingRobotModel.plainMoves (J)I : W, depth 11 -/
abbrev i_X8_plainMoves : Zm := (yX8_plainMoves.cls, cX8_plainMoves, 5, (some .int), [], yX8_plainMoves.name)
def f_X8_plainMoves_j76 (S : Zs) (w : Zw) (x0 : Nat) (x3 : Int32) (x4 : Int32) (k12 : (Int32 × Zw) → Option (Int32 × Zw)) : Option (Int32 × Zw) :=
  if zin x3 (zlen S (zr S x0 13)) = true then if zin x4 (zlen S (zr S x0 14)) = true then zlet (zput w (zr S x0 14) (zix x4) (w (zr S x0 13) (zix x3))) fun w17 => k12 ((x3 + (1 : Int32)), w17) else none else none
theorem m_X8_plainMoves_j76 {E : ZE} {S : Zs} (hW : zWF S) (w : Zw) (x0 : Nat) (hx0 : zObj S x0 8) (x3 : Int32) (x4 : Int32) (k12 : (Int32 × Zw) → Option (Int32 × Zw)) (hk12 : ∀ a : Int32 × Zw, zOk (E, i_X8_plainMoves, 11) 0 0 S a.2 12 [(0, .ref x0), (3, .int a.1)] [] (emW eI S) (k12 a)) : zOk (E, i_X8_plainMoves, 11) 0 0 S w 76 [(0, .ref x0), (3, .int x3), (4, .int x4)] [] (emW eI S) (f_X8_plainMoves_j76 S w x0 x3 x4 k12) := by
  unfold f_X8_plainMoves_j76
  refine z_aload_n 0 dX8_plainMoves_76 rfl (z_getR zc8 14 (by decide) rfl gw1121 hx0 (zW_some hW hx0 14 rfl) dX8_plainMoves_77 (z_iload 2 dX8_plainMoves_80 rfl (z_aload_n 0 dX8_plainMoves_82 rfl (z_getR zc8 13 (by decide) rfl gw1120 hx0 (zW_some hW hx0 13 rfl) dX8_plainMoves_83 (z_iload_n 1 dX8_plainMoves_86 rfl ?_)))))
  refine z_chk (fun c15 => ?_)
  refine z_iald (zW_arr hW hx0 13 0 rfl) c15 dX8_plainMoves_87 ?_
  refine z_chk (fun c16 => ?_)
  refine z_iast (zW_arr hW hx0 14 0 rfl) c16 dX8_plainMoves_88 (z_letw (fun w17 => ?_))
  refine z_iinc (v := (x3 + (1 : Int32))) (lv' := [(3, .int (x3 + (1 : Int32))), (0, .ref x0), (4, .int x4)]) 1 dX8_plainMoves_89 rfl (zi_inc _ zi_1) (Nat.le_of_ble_eq_true rfl) rfl (z_goto 12 dX8_plainMoves_92 rfl ?_)
  refine z_sub (lv' := [(0, .ref x0), (3, .int (x3 + (1 : Int32)))]) [1, 0] rfl ?_
  refine z_pc (pc' := 12) rfl ?_
  exact hk12 ((x3 + (1 : Int32)), w17)

def f_X8_plainMoves_b23 (S : Zs) (x0 : Nat) (x3 : Int32) (k12 : (Int32 × Zw) → Option (Int32 × Zw)) (k : (Int32 × Zw) → Option (Int32 × Zw)) (x4 : Int32) (w : Zw) : Option (Int32 × Zw) :=
  if x4 ≤ 0 then f_X8_plainMoves_j76 S w x0 x3 x4 k12  else if zin x3 (zlen S (zr S x0 13)) = true then (f_X8_pickup S w x0 (w (zr S x0 13) (zix x3))).bind fun v19 => if zin (x4 - (1 : Int32)) (zlen S (zr S x0 14)) = true then (f_X8_pickup S w x0 (w (zr S x0 14) (zix (x4 - (1 : Int32))))).bind fun v22 => if v22 ≤ v19 then f_X8_plainMoves_j76 S w x0 x3 x4 k12  else if zin (x4 - (1 : Int32)) (zlen S (zr S x0 14)) = true then if zin x4 (zlen S (zr S x0 14)) = true then zlet (zput w (zr S x0 14) (zix x4) (w (zr S x0 14) (zix (x4 - (1 : Int32))))) fun w27 => k ((x4 + (-1 : Int32)), w27) else none else none else none else none
def f_X8_plainMoves_l23 (S : Zs) (x0 : Nat) (x3 : Int32) (k12 : (Int32 × Zw) → Option (Int32 × Zw)) (a : Int32 × Zw) : Option (Int32 × Zw) :=
  zlp (fun k a => f_X8_plainMoves_b23 S x0 x3 k12 k a.1 a.2) zFU a
theorem m_X8_plainMoves_l23 {E : ZE} {S : Zs} (hW : zWF S) (x0 : Nat) (hx0 : zObj S x0 8) (x3 : Int32) (k12 : (Int32 × Zw) → Option (Int32 × Zw)) (hk12 : ∀ a : Int32 × Zw, zOk (E, i_X8_plainMoves, 11) 0 0 S a.2 12 [(0, .ref x0), (3, .int a.1)] [] (emW eI S) (k12 a)) : ∀ a : Int32 × Zw, zOk (E, i_X8_plainMoves, 11) 0 0 S a.2 23 [(0, .ref x0), (3, .int x3), (4, .int a.1)] [] (emW eI S) (f_X8_plainMoves_l23 S x0 x3 k12 a) := by
  intro a
  refine z_lp (P := fun _ => True) (W9 := fun a : Int32 × Zw => a.2) (L9 := fun a : Int32 × Zw => [(0, .ref x0), (3, .int x3), (4, .int a.1)]) (T9 := fun _ => []) (fun k hk9 a _ => ?_) zFU a trivial
  have hk : ∀ a : Int32 × Zw, zOk (E, i_X8_plainMoves, 11) 0 0 S a.2 23 [(0, .ref x0), (3, .int x3), (4, .int a.1)] [] (emW eI S) (k a) := fun a => hk9 a trivial
  clear hk9
  obtain ⟨x4, w⟩ := a
  show zOk (E, i_X8_plainMoves, 11) 0 0 S w 23 [(0, .ref x0), (3, .int x3), (4, .int x4)] [] (emW eI S) (f_X8_plainMoves_b23 S x0 x3 k12 k x4 w)
  unfold f_X8_plainMoves_b23
  refine z_iload 2 dX8_plainMoves_23 rfl ?_
  refine z_if_le 76 dX8_plainMoves_25 rfl (fun q14 => ?_) (fun q14 => ?_)
  · refine z_pc (pc' := 76) rfl ?_
    exact m_X8_plainMoves_j76 hW w x0 hx0 x3 x4 k12 hk12 
  · refine z_aload_n 0 dX8_plainMoves_28 rfl (z_aload_n 0 dX8_plainMoves_29 rfl (z_getR zc8 13 (by decide) rfl gw1120 hx0 (zW_some hW hx0 13 rfl) dX8_plainMoves_30 (z_iload_n 1 dX8_plainMoves_33 rfl ?_)))
    refine z_chk (fun c18 => ?_)
    refine z_iald (zW_arr hW hx0 13 0 rfl) c18 dX8_plainMoves_34 ?_
    refine z_bind (fun v19 hb20 => ?_)
    refine z_callV (kc' := 0) (ks' := 0) (v := (some (.int v19))) (S1 := S) (w1 := w) (st := []) [.int (w (zr S x0 13) (zix x3))] (m_X8_pickup hW w x0 hx0 (w (zr S x0 13) (zix x3)) v19 hb20) zc8 hx0 zy_X8_pickup gw1251 gp32 gw1249 (Nat.le_of_ble_eq_true rfl) (Nat.le_of_ble_eq_true rfl) (Nat.le_of_ble_eq_true rfl) (Nat.le_of_ble_eq_true rfl) (zal hW) rfl dX8_plainMoves_35 (z_at 38 _ [.int v19] rfl rfl rfl ?_)
    refine z_aload_n 0 dX8_plainMoves_38 rfl (z_aload_n 0 dX8_plainMoves_39 rfl (z_getR zc8 14 (by decide) rfl gw1121 hx0 (zW_some hW hx0 14 rfl) dX8_plainMoves_40 (z_iload 2 dX8_plainMoves_43 rfl (z_iconst dX8_plainMoves_45 zi_1 (z_isub dX8_plainMoves_46 ?_)))))
    refine z_chk (fun c21 => ?_)
    refine z_iald (zW_arr hW hx0 14 0 rfl) c21 dX8_plainMoves_47 ?_
    refine z_bind (fun v22 hb23 => ?_)
    refine z_callV (kc' := 0) (ks' := 0) (v := (some (.int v22))) (S1 := S) (w1 := w) (st := [.int v19]) [.int (w (zr S x0 14) (zix (x4 - (1 : Int32))))] (m_X8_pickup hW w x0 hx0 (w (zr S x0 14) (zix (x4 - (1 : Int32)))) v22 hb23) zc8 hx0 zy_X8_pickup gw1251 gp32 gw1249 (Nat.le_of_ble_eq_true rfl) (Nat.le_of_ble_eq_true rfl) (Nat.le_of_ble_eq_true rfl) (Nat.le_of_ble_eq_true rfl) (zal hW) rfl dX8_plainMoves_48 (z_at 51 _ [.int v22, .int v19] rfl rfl rfl ?_)
    refine z_icmp_ge 76 dX8_plainMoves_51 rfl (fun q24 => ?_) (fun q24 => ?_)
    · refine z_pc (pc' := 76) rfl ?_
      exact m_X8_plainMoves_j76 hW w x0 hx0 x3 x4 k12 hk12 
    · refine z_aload_n 0 dX8_plainMoves_54 rfl (z_getR zc8 14 (by decide) rfl gw1121 hx0 (zW_some hW hx0 14 rfl) dX8_plainMoves_55 (z_iload 2 dX8_plainMoves_58 rfl (z_aload_n 0 dX8_plainMoves_60 rfl (z_getR zc8 14 (by decide) rfl gw1121 hx0 (zW_some hW hx0 14 rfl) dX8_plainMoves_61 (z_iload 2 dX8_plainMoves_64 rfl ?_)))))
      refine z_iconst dX8_plainMoves_66 zi_1 (z_isub dX8_plainMoves_67 ?_)
      refine z_chk (fun c25 => ?_)
      refine z_iald (zW_arr hW hx0 14 0 rfl) c25 dX8_plainMoves_68 ?_
      refine z_chk (fun c26 => ?_)
      refine z_iast (zW_arr hW hx0 14 0 rfl) c26 dX8_plainMoves_69 (z_letw (fun w27 => ?_))
      refine z_iinc (v := (x4 + (-1 : Int32))) (lv' := [(4, .int (x4 + (-1 : Int32))), (0, .ref x0), (3, .int x3)]) 2 dX8_plainMoves_70 rfl (zi_inc _ zi_m1) (Nat.le_of_ble_eq_true rfl) rfl (z_goto 23 dX8_plainMoves_73 rfl ?_)
      refine z_sub (lv' := [(0, .ref x0), (3, .int x3), (4, .int (x4 + (-1 : Int32)))]) [1, 2, 0] rfl ?_
      refine z_pc (pc' := 23) rfl ?_
      exact hk ((x4 + (-1 : Int32)), w27)

def f_X8_plainMoves_b12 (S : Zs) (x0 : Nat) (k : (Int32 × Zw) → Option (Int32 × Zw)) (x3 : Int32) (w : Zw) : Option (Int32 × Zw) :=
  if (w x0 16) ≤ x3 then (f_X8_copies S w (zr S x0 1) (0 : Int32) (zr S x0 3) (0 : Int32)).bind fun r5 => (f_X8_goes S r5.2 x0).bind fun r7 => (f_X8_copies S r7.2 (zr S x0 3) (0 : Int32) (zr S x0 1) (0 : Int32)).bind fun r9 => if r7.1 = 0 then (f_X8_fails S r9.2 x0 (3 : Int32)).bind fun r12 => some (r12.1, r12.2) else some ((r9.2 x0 19), r9.2) else f_X8_plainMoves_l23 S x0 x3 k (x3, w)
def f_X8_plainMoves_l12 (S : Zs) (x0 : Nat) (a : Int32 × Zw) : Option (Int32 × Zw) :=
  zlp (fun k a => f_X8_plainMoves_b12 S x0 k a.1 a.2) zFU a
theorem m_X8_plainMoves_l12 {E : ZE} {S : Zs} (hW : zWF S) (x0 : Nat) (hx0 : zObj S x0 8) : ∀ a : Int32 × Zw, zOk (E, i_X8_plainMoves, 11) 0 0 S a.2 12 [(0, .ref x0), (3, .int a.1)] [] (emW eI S) (f_X8_plainMoves_l12 S x0 a) := by
  intro a
  refine z_lp (P := fun _ => True) (W9 := fun a : Int32 × Zw => a.2) (L9 := fun a : Int32 × Zw => [(0, .ref x0), (3, .int a.1)]) (T9 := fun _ => []) (fun k hk9 a _ => ?_) zFU a trivial
  have hk : ∀ a : Int32 × Zw, zOk (E, i_X8_plainMoves, 11) 0 0 S a.2 12 [(0, .ref x0), (3, .int a.1)] [] (emW eI S) (k a) := fun a => hk9 a trivial
  clear hk9
  obtain ⟨x3, w⟩ := a
  show zOk (E, i_X8_plainMoves, 11) 0 0 S w 12 [(0, .ref x0), (3, .int x3)] [] (emW eI S) (f_X8_plainMoves_b12 S x0 k x3 w)
  unfold f_X8_plainMoves_b12
  refine z_iload_n 1 dX8_plainMoves_12 rfl (z_aload_n 0 dX8_plainMoves_13 rfl (z_getI zc8 16 (by decide) rfl gw1123 hx0 dX8_plainMoves_14 ?_))
  refine z_icmp_ge 95 dX8_plainMoves_17 rfl (fun q4 => ?_) (fun q4 => ?_)
  · refine z_aload_n 0 dX8_plainMoves_95 rfl (z_getR zc8 1 (by decide) rfl gw1108 hx0 (zW_some hW hx0 1 rfl) dX8_plainMoves_96 (z_iconst dX8_plainMoves_99 zi_0 (z_aload_n 0 dX8_plainMoves_100 rfl (z_getR zc8 3 (by decide) rfl gw1110 hx0 (zW_some hW hx0 3 rfl) dX8_plainMoves_101 (z_iconst dX8_plainMoves_104 zi_0 ?_)))))
    refine z_bind (fun r5 hb6 => ?_)
    refine z_callS (kc' := 0) (ks' := 0) (v := none) (S1 := S) (w1 := r5.2) (st := []) [.ref (zr S x0 1), .int (0 : Int32), .ref (zr S x0 3), .int (0 : Int32)] (m_X8_copies hW w (zr S x0 1) (zW_arr hW hx0 1 0 rfl) (0 : Int32) (zr S x0 3) (zW_arr hW hx0 3 0 rfl) (0 : Int32) r5 hb6) zy_X8_copies gw1198 gw1197 (Nat.le_of_ble_eq_true rfl) (Nat.le_of_ble_eq_true rfl) (Nat.le_of_ble_eq_true rfl) (Nat.le_of_ble_eq_true rfl) (zal hW) rfl dX8_plainMoves_105 (z_at 108 _ [] rfl rfl rfl ?_)
    refine z_aload_n 0 dX8_plainMoves_108 rfl ?_
    refine z_bind (fun r7 hb8 => ?_)
    refine z_callV (kc' := 0) (ks' := 0) (v := (some (.int r7.1))) (S1 := S) (w1 := r7.2) (st := []) [] (m_X8_goes hW r5.2 x0 hx0 r7 hb8) zc8 hx0 zy_X8_goes gw1400 gp56 gw1398 (Nat.le_of_ble_eq_true rfl) (Nat.le_of_ble_eq_true rfl) (Nat.le_of_ble_eq_true rfl) (Nat.le_of_ble_eq_true rfl) (zal hW) rfl dX8_plainMoves_109 (z_at 112 _ [.int r7.1] rfl rfl rfl ?_)
    refine z_istore_n (lv' := [(3, .int r7.1), (0, .ref x0)]) dX8_plainMoves_112 (Nat.le_of_ble_eq_true rfl) rfl (z_aload_n 1 dX8_plainMoves_113 rfl (z_getR zc8 3 (by decide) rfl gw1110 hx0 (zW_some hW hx0 3 rfl) dX8_plainMoves_114 (z_iconst dX8_plainMoves_117 zi_0 (z_aload_n 1 dX8_plainMoves_118 rfl (z_getR zc8 1 (by decide) rfl gw1108 hx0 (zW_some hW hx0 1 rfl) dX8_plainMoves_119 ?_)))))
    refine z_iconst dX8_plainMoves_122 zi_0 ?_
    refine z_bind (fun r9 hb10 => ?_)
    refine z_callS (kc' := 0) (ks' := 0) (v := none) (S1 := S) (w1 := r9.2) (st := []) [.ref (zr S x0 3), .int (0 : Int32), .ref (zr S x0 1), .int (0 : Int32)] (m_X8_copies hW r7.2 (zr S x0 3) (zW_arr hW hx0 3 0 rfl) (0 : Int32) (zr S x0 1) (zW_arr hW hx0 1 0 rfl) (0 : Int32) r9 hb10) zy_X8_copies gw1198 gw1197 (Nat.le_of_ble_eq_true rfl) (Nat.le_of_ble_eq_true rfl) (Nat.le_of_ble_eq_true rfl) (Nat.le_of_ble_eq_true rfl) (zal hW) rfl dX8_plainMoves_123 (z_at 126 _ [] rfl rfl rfl ?_)
    refine z_iload_n 0 dX8_plainMoves_126 rfl ?_
    refine z_if_eq 137 dX8_plainMoves_127 rfl (fun q11 => ?_) (fun q11 => ?_)
    · refine z_aload_n 1 dX8_plainMoves_137 rfl (z_iconst dX8_plainMoves_138 zi_3 ?_)
      refine z_bind (fun r12 hb13 => ?_)
      refine z_callV (kc' := 0) (ks' := 0) (v := (some (.int r12.1))) (S1 := S) (w1 := r12.2) (st := []) [.int (3 : Int32)] (m_X8_fails hW r9.2 x0 hx0 (3 : Int32) r12 hb13) zc8 hx0 zy_X8_fails gw1215 gp27 gw1213 (Nat.le_of_ble_eq_true rfl) (Nat.le_of_ble_eq_true rfl) (Nat.le_of_ble_eq_true rfl) (Nat.le_of_ble_eq_true rfl) (zal hW) rfl dX8_plainMoves_139 (z_at 142 _ [.int r12.1] rfl rfl rfl ?_)
      exact z_iret zemW rfl dX8_plainMoves_142
    · refine z_aload_n 1 dX8_plainMoves_130 rfl (z_getI zc8 19 (by decide) rfl gw1126 hx0 dX8_plainMoves_131 (z_goto 142 dX8_plainMoves_134 rfl ?_))
      exact z_iret zemW rfl dX8_plainMoves_142
  · refine z_iload_n 1 dX8_plainMoves_20 rfl (z_istore (lv' := [(4, .int x3), (0, .ref x0), (3, .int x3)]) dX8_plainMoves_21 (Nat.le_of_ble_eq_true rfl) rfl ?_)
    refine z_sub (lv' := [(0, .ref x0), (3, .int x3), (4, .int x3)]) [1, 2, 0] rfl ?_
    refine z_pc (pc' := 23) rfl ?_
    exact m_X8_plainMoves_l23 hW x0 hx0 x3 k hk (x3, w)

def f_X8_plainMoves (S : Zs) (w : Zw) (a0 : Nat) (a1 : Int64) : Option (Int32 × Zw) :=
  (f_X8_isSet S w a0 a1).bind fun r1 => if r1.1 = 0 then some ((0 : Int32), r1.2) else f_X8_plainMoves_l12 S a0 ((0 : Int32), r1.2)
theorem mw_X8_plainMoves {E : ZE} {S : Zs} (hW : zWF S) (w : Zw) (a0 : Nat) (h0 : zObj S a0 8) (a1 : Int64) : zOk (E, i_X8_plainMoves, 11) 0 0 S w 0 [(0, .ref a0), (1, .long a1)] [] (emW eI S) (f_X8_plainMoves S w a0 a1) := by
  unfold f_X8_plainMoves
  refine z_aload_n 0 dX8_plainMoves_0 rfl (z_lload_n 1 dX8_plainMoves_1 rfl ?_)
  refine z_bind (fun r1 hb2 => ?_)
  refine z_callV (kc' := 0) (ks' := 0) (v := (some (.int r1.1))) (S1 := S) (w1 := r1.2) (st := []) [.long a1] (m_X8_isSet hW w a0 h0 a1 r1 hb2) zc8 h0 zy_X8_isSet gw1383 gp52 gw1381 (Nat.le_of_ble_eq_true rfl) (Nat.le_of_ble_eq_true rfl) (Nat.le_of_ble_eq_true rfl) (Nat.le_of_ble_eq_true rfl) (zal hW) rfl dX8_plainMoves_2 (z_at 5 _ [.int r1.1] rfl rfl rfl ?_)
  refine z_if_ne 10 dX8_plainMoves_5 rfl (fun q3 => ?_) (fun q3 => ?_)
  · refine z_iconst dX8_plainMoves_10 zi_0 (z_istore_n (lv' := [(3, .int (0 : Int32)), (0, .ref a0), (1, .long a1)]) dX8_plainMoves_11 (Nat.le_of_ble_eq_true rfl) rfl ?_)
    refine z_sub (lv' := [(0, .ref a0), (3, .int (0 : Int32))]) [1, 0] rfl ?_
    refine z_pc (pc' := 12) rfl ?_
    exact m_X8_plainMoves_l12 hW a0 h0 ((0 : Int32), r1.2)
  · refine z_iconst dX8_plainMoves_8 zi_0 ?_
    exact z_iret zemW rfl dX8_plainMoves_9

theorem m_X8_plainMoves {E : ZE} {S : Zs} (hW : zWF S) (w : Zw) (a0 : Nat) (h0 : zObj S a0 8) (a1 : Int64) : ∀ i, f_X8_plainMoves S w a0 a1 = some i → zMr E yX8_plainMoves cX8_plainMoves 5 ((some .int)) 11 0 0 [.ref a0, .long a1] S w ((emW eI S) i) :=
  fun i hi => z_enter (by decide +kernel) (Nat.le_of_ble_eq_true rfl) (mw_X8_plainMoves hW w a0 h0 a1 i hi)
/-! ParkingRobotModel.refuge (I)I : W, depth 8 -/
abbrev i_X8_refuge : Zm := (yX8_refuge.cls, cX8_refuge, 3, (some .int), [], yX8_refuge.name)
def f_X8_refuge (S : Zs) (w : Zw) (a0 : Nat) (a1 : Int32) : Option (Int32 × Zw) :=
  zlet (zput w a0 0 (0 : Int32)) fun w1 => (f_X8_isCar S w1 a0 a1).bind fun v2 => if v2 = 0 then (f_X8_fails S w1 a0 (1 : Int32)).bind fun r16 => some (r16.1, r16.2) else (f_X8_of S w1 a0 a1 (0 : Int32)).bind fun v5 => (f_X8_pickup S w1 a0 a1).bind fun v7 => (f_X8_bayOf S w1 a0 a1).bind fun v9 => (f_X8_chosen S w1 a0 v5 v7 v9).bind fun v11 => if 0 ≤ v11 then some (v11, w1) else (f_X8_fails S w1 a0 (2 : Int32)).bind fun r14 => some (r14.1, r14.2)
theorem mw_X8_refuge {E : ZE} {S : Zs} (hW : zWF S) (w : Zw) (a0 : Nat) (h0 : zObj S a0 8) (a1 : Int32) : zOk (E, i_X8_refuge, 8) 0 0 S w 0 [(0, .ref a0), (1, .int a1)] [] (emW eI S) (f_X8_refuge S w a0 a1) := by
  unfold f_X8_refuge
  refine z_aload_n 0 dX8_refuge_0 rfl (z_iconst dX8_refuge_1 zi_0 ?_)
  refine z_putI zc8 0 (by decide) (Or.inl rfl) rfl gw1107 h0 dX8_refuge_2 (z_letw (fun w1 => ?_))
  refine z_aload_n 0 dX8_refuge_5 rfl (z_iload_n 1 dX8_refuge_6 rfl ?_)
  refine z_bind (fun v2 hb3 => ?_)
  refine z_callV (kc' := 0) (ks' := 0) (v := (some (.int v2))) (S1 := S) (w1 := w1) (st := []) [.int a1] (m_X8_isCar hW w1 a0 h0 a1 v2 hb3) zc8 h0 zy_X8_isCar gw1301 gp42 gw1299 (Nat.le_of_ble_eq_true rfl) (Nat.le_of_ble_eq_true rfl) (Nat.le_of_ble_eq_true rfl) (Nat.le_of_ble_eq_true rfl) (zal hW) rfl dX8_refuge_7 (z_at 10 _ [.int v2] rfl rfl rfl ?_)
  refine z_if_ne 19 dX8_refuge_10 rfl (fun q4 => ?_) (fun q4 => ?_)
  · refine z_aload_n 0 dX8_refuge_19 rfl (z_aload_n 0 dX8_refuge_20 rfl (z_iload_n 1 dX8_refuge_21 rfl (z_iconst dX8_refuge_22 zi_0 ?_)))
    refine z_bind (fun v5 hb6 => ?_)
    refine z_callV (kc' := 0) (ks' := 0) (v := (some (.int v5))) (S1 := S) (w1 := w1) (st := [.ref a0]) [.int a1, .int (0 : Int32)] (m_X8_of hW w1 a0 h0 a1 (0 : Int32) v5 hb6) zc8 h0 zy_X8_of gw1255 gp33 gw1253 (Nat.le_of_ble_eq_true rfl) (Nat.le_of_ble_eq_true rfl) (Nat.le_of_ble_eq_true rfl) (Nat.le_of_ble_eq_true rfl) (zal hW) rfl dX8_refuge_23 (z_at 26 _ [.int v5, .ref a0] rfl rfl rfl ?_)
    refine z_aload_n 0 dX8_refuge_26 rfl (z_iload_n 1 dX8_refuge_27 rfl ?_)
    refine z_bind (fun v7 hb8 => ?_)
    refine z_callV (kc' := 0) (ks' := 0) (v := (some (.int v7))) (S1 := S) (w1 := w1) (st := [.int v5, .ref a0]) [.int a1] (m_X8_pickup hW w1 a0 h0 a1 v7 hb8) zc8 h0 zy_X8_pickup gw1251 gp32 gw1249 (Nat.le_of_ble_eq_true rfl) (Nat.le_of_ble_eq_true rfl) (Nat.le_of_ble_eq_true rfl) (Nat.le_of_ble_eq_true rfl) (zal hW) rfl dX8_refuge_28 (z_at 31 _ [.int v7, .int v5, .ref a0] rfl rfl rfl ?_)
    refine z_aload_n 0 dX8_refuge_31 rfl (z_iload_n 1 dX8_refuge_32 rfl ?_)
    refine z_bind (fun v9 hb10 => ?_)
    refine z_callV (kc' := 0) (ks' := 0) (v := (some (.int v9))) (S1 := S) (w1 := w1) (st := [.int v7, .int v5, .ref a0]) [.int a1] (m_X8_bayOf hW w1 a0 h0 a1 v9 hb10) zc8 h0 zy_X8_bayOf gw1305 gp43 gw1303 (Nat.le_of_ble_eq_true rfl) (Nat.le_of_ble_eq_true rfl) (Nat.le_of_ble_eq_true rfl) (Nat.le_of_ble_eq_true rfl) (zal hW) rfl dX8_refuge_33 (z_at 36 _ [.int v9, .int v7, .int v5, .ref a0] rfl rfl rfl ?_)
    refine z_bind (fun v11 hb12 => ?_)
    refine z_callV (kc' := 0) (ks' := 0) (v := (some (.int v11))) (S1 := S) (w1 := w1) (st := []) [.int v5, .int v7, .int v9] (m_X8_chosen hW w1 a0 h0 v5 v7 v9 v11 hb12) zc8 h0 zy_X8_chosen gw1219 gp28 gw1217 (Nat.le_of_ble_eq_true rfl) (Nat.le_of_ble_eq_true rfl) (Nat.le_of_ble_eq_true rfl) (Nat.le_of_ble_eq_true rfl) (zal hW) rfl dX8_refuge_36 (z_at 39 _ [.int v11] rfl rfl rfl ?_)
    refine z_istore_n (lv' := [(2, .int v11), (0, .ref a0), (1, .int a1)]) dX8_refuge_39 (Nat.le_of_ble_eq_true rfl) rfl (z_iload_n 0 dX8_refuge_40 rfl ?_)
    refine z_if_ge 52 dX8_refuge_41 rfl (fun q13 => ?_) (fun q13 => ?_)
    · refine z_iload_n 0 dX8_refuge_52 rfl ?_
      exact z_iret zemW rfl dX8_refuge_53
    · refine z_aload_n 1 dX8_refuge_44 rfl (z_iconst dX8_refuge_45 zi_2 ?_)
      refine z_bind (fun r14 hb15 => ?_)
      refine z_callV (kc' := 0) (ks' := 0) (v := (some (.int r14.1))) (S1 := S) (w1 := r14.2) (st := []) [.int (2 : Int32)] (m_X8_fails hW w1 a0 h0 (2 : Int32) r14 hb15) zc8 h0 zy_X8_fails gw1215 gp27 gw1213 (Nat.le_of_ble_eq_true rfl) (Nat.le_of_ble_eq_true rfl) (Nat.le_of_ble_eq_true rfl) (Nat.le_of_ble_eq_true rfl) (zal hW) rfl dX8_refuge_46 (z_at 49 _ [.int r14.1] rfl rfl rfl ?_)
      refine z_goto 53 dX8_refuge_49 rfl ?_
      exact z_iret zemW rfl dX8_refuge_53
  · refine z_aload_n 0 dX8_refuge_13 rfl (z_iconst dX8_refuge_14 zi_1 ?_)
    refine z_bind (fun r16 hb17 => ?_)
    refine z_callV (kc' := 0) (ks' := 0) (v := (some (.int r16.1))) (S1 := S) (w1 := r16.2) (st := []) [.int (1 : Int32)] (m_X8_fails hW w1 a0 h0 (1 : Int32) r16 hb17) zc8 h0 zy_X8_fails gw1215 gp27 gw1213 (Nat.le_of_ble_eq_true rfl) (Nat.le_of_ble_eq_true rfl) (Nat.le_of_ble_eq_true rfl) (Nat.le_of_ble_eq_true rfl) (zal hW) rfl dX8_refuge_15 (z_at 18 _ [.int r16.1] rfl rfl rfl ?_)
    exact z_iret zemW rfl dX8_refuge_18

theorem m_X8_refuge {E : ZE} {S : Zs} (hW : zWF S) (w : Zw) (a0 : Nat) (h0 : zObj S a0 8) (a1 : Int32) : ∀ i, f_X8_refuge S w a0 a1 = some i → zMr E yX8_refuge cX8_refuge 3 ((some .int)) 8 0 0 [.ref a0, .int a1] S w ((emW eI S) i) :=
  fun i hi => z_enter (by decide +kernel) (Nat.le_of_ble_eq_true rfl) (mw_X8_refuge hW w a0 h0 a1 i hi)
/-! ParkingRobotModel.report (II)I : W, depth 1 -/
abbrev i_X8_report : Zm := (yX8_report.cls, cX8_report, 3, (some .int), [], yX8_report.name)
def f_X8_report_j21 (S : Zs) (w : Zw) (x0 : Nat) : Option (Int32 × Zw) :=
  (f_X8_fails S w x0 (1 : Int32)).bind fun r3 => some (r3.1, r3.2)
theorem m_X8_report_j21 {E : ZE} {S : Zs} (hW : zWF S) (w : Zw) (x0 : Nat) (hx0 : zObj S x0 8) : zOk (E, i_X8_report, 1) 0 0 S w 21 [(0, .ref x0)] [] (emW eI S) (f_X8_report_j21 S w x0) := by
  unfold f_X8_report_j21
  refine z_aload_n 0 dX8_report_21 rfl (z_iconst dX8_report_22 zi_1 ?_)
  refine z_bind (fun r3 hb4 => ?_)
  refine z_callV (kc' := 0) (ks' := 0) (v := (some (.int r3.1))) (S1 := S) (w1 := r3.2) (st := []) [.int (1 : Int32)] (m_X8_fails hW w x0 hx0 (1 : Int32) r3 hb4) zc8 hx0 zy_X8_fails gw1215 gp27 gw1213 (Nat.le_of_ble_eq_true rfl) (Nat.le_of_ble_eq_true rfl) (Nat.le_of_ble_eq_true rfl) (Nat.le_of_ble_eq_true rfl) (zal hW) rfl dX8_report_23 (z_at 26 _ [.int r3.1] rfl rfl rfl ?_)
  exact z_iret zemW rfl dX8_report_26

def f_X8_report (S : Zs) (w : Zw) (a0 : Nat) (a1 : Int32) (a2 : Int32) : Option (Int32 × Zw) :=
  zlet (zput w a0 0 (0 : Int32)) fun w1 => if (w1 a0 10) < 0 then f_X8_report_j21 S w1 a0  else (f_X8_in a1 (0 : Int32) (2 : Int32)).bind fun v5 => if v5 = 0 then f_X8_report_j21 S w1 a0  else (f_X8_in a2 (0 : Int32) (1 : Int32)).bind fun v8 => if v8 = 0 then (f_X8_fails S w1 a0 (2 : Int32)).bind fun r14 => some (r14.1, r14.2) else if a2 = 0 then some (((1 : Int32) + a1), w1) else if a1 = 0 then some ((w1 a0 10), w1) else if a1 = (1 : Int32) then some ((w1 a0 11), w1) else some ((w1 a0 12), w1)
theorem mw_X8_report {E : ZE} {S : Zs} (hW : zWF S) (w : Zw) (a0 : Nat) (h0 : zObj S a0 8) (a1 : Int32) (a2 : Int32) : zOk (E, i_X8_report, 1) 0 0 S w 0 [(0, .ref a0), (1, .int a1), (2, .int a2)] [] (emW eI S) (f_X8_report S w a0 a1 a2) := by
  unfold f_X8_report
  refine z_aload_n 0 dX8_report_0 rfl (z_iconst dX8_report_1 zi_0 ?_)
  refine z_putI zc8 0 (by decide) (Or.inl rfl) rfl gw1107 h0 dX8_report_2 (z_letw (fun w1 => ?_))
  refine z_aload_n 0 dX8_report_5 rfl (z_getI zc8 10 (by decide) rfl gw1117 h0 dX8_report_6 ?_)
  refine z_if_lt 21 dX8_report_9 rfl (fun q2 => ?_) (fun q2 => ?_)
  · refine z_sub (lv' := [(0, .ref a0)]) [0] rfl ?_
    refine z_pc (pc' := 21) rfl ?_
    exact m_X8_report_j21 hW w1 a0 h0 
  · refine z_iload_n 1 dX8_report_12 rfl (z_iconst dX8_report_13 zi_0 (z_iconst dX8_report_14 zi_2 ?_))
    refine z_bind (fun v5 hb6 => ?_)
    refine z_callS (kc' := 0) (ks' := 0) (v := (some (.int v5))) (S1 := S) (w1 := w1) (st := []) [.int a1, .int (0 : Int32), .int (2 : Int32)] (m_X8_in hW w1 a1 (0 : Int32) (2 : Int32) v5 hb6) zy_X8_in gw1208 gw1207 (Nat.le_of_ble_eq_true rfl) (Nat.le_of_ble_eq_true rfl) (Nat.le_of_ble_eq_true rfl) (Nat.le_of_ble_eq_true rfl) (zal hW) rfl dX8_report_15 (z_at 18 _ [.int v5] rfl rfl rfl ?_)
    refine z_if_ne 27 dX8_report_18 rfl (fun q7 => ?_) (fun q7 => ?_)
    · refine z_iload_n 2 dX8_report_27 rfl (z_iconst dX8_report_28 zi_0 (z_iconst dX8_report_29 zi_1 ?_))
      refine z_bind (fun v8 hb9 => ?_)
      refine z_callS (kc' := 0) (ks' := 0) (v := (some (.int v8))) (S1 := S) (w1 := w1) (st := []) [.int a2, .int (0 : Int32), .int (1 : Int32)] (m_X8_in hW w1 a2 (0 : Int32) (1 : Int32) v8 hb9) zy_X8_in gw1208 gw1207 (Nat.le_of_ble_eq_true rfl) (Nat.le_of_ble_eq_true rfl) (Nat.le_of_ble_eq_true rfl) (Nat.le_of_ble_eq_true rfl) (zal hW) rfl dX8_report_30 (z_at 33 _ [.int v8] rfl rfl rfl ?_)
      refine z_if_ne 42 dX8_report_33 rfl (fun q10 => ?_) (fun q10 => ?_)
      · refine z_iload_n 2 dX8_report_42 rfl ?_
        refine z_if_ne 52 dX8_report_43 rfl (fun q11 => ?_) (fun q11 => ?_)
        · refine z_iload_n 1 dX8_report_52 rfl ?_
          refine z_if_ne 63 dX8_report_53 rfl (fun q12 => ?_) (fun q12 => ?_)
          · refine z_iload_n 1 dX8_report_63 rfl (z_iconst dX8_report_64 zi_1 ?_)
            refine z_icmp_ne 75 dX8_report_65 rfl (fun q13 => ?_) (fun q13 => ?_)
            · refine z_aload_n 0 dX8_report_75 rfl (z_getI zc8 12 (by decide) rfl gw1119 h0 dX8_report_76 ?_)
              exact z_iret zemW rfl dX8_report_79
            · refine z_aload_n 0 dX8_report_68 rfl (z_getI zc8 11 (by decide) rfl gw1118 h0 dX8_report_69 (z_goto 79 dX8_report_72 rfl ?_))
              exact z_iret zemW rfl dX8_report_79
          · refine z_aload_n 0 dX8_report_56 rfl (z_getI zc8 10 (by decide) rfl gw1117 h0 dX8_report_57 (z_goto 79 dX8_report_60 rfl ?_))
            exact z_iret zemW rfl dX8_report_79
        · refine z_iconst dX8_report_46 zi_1 (z_iload_n 1 dX8_report_47 rfl (z_iadd dX8_report_48 (z_goto 79 dX8_report_49 rfl ?_)))
          exact z_iret zemW rfl dX8_report_79
      · refine z_aload_n 0 dX8_report_36 rfl (z_iconst dX8_report_37 zi_2 ?_)
        refine z_bind (fun r14 hb15 => ?_)
        refine z_callV (kc' := 0) (ks' := 0) (v := (some (.int r14.1))) (S1 := S) (w1 := r14.2) (st := []) [.int (2 : Int32)] (m_X8_fails hW w1 a0 h0 (2 : Int32) r14 hb15) zc8 h0 zy_X8_fails gw1215 gp27 gw1213 (Nat.le_of_ble_eq_true rfl) (Nat.le_of_ble_eq_true rfl) (Nat.le_of_ble_eq_true rfl) (Nat.le_of_ble_eq_true rfl) (zal hW) rfl dX8_report_38 (z_at 41 _ [.int r14.1] rfl rfl rfl ?_)
        exact z_iret zemW rfl dX8_report_41
    · refine z_sub (lv' := [(0, .ref a0)]) [0] rfl ?_
      refine z_pc (pc' := 21) rfl ?_
      exact m_X8_report_j21 hW w1 a0 h0 

theorem m_X8_report {E : ZE} {S : Zs} (hW : zWF S) (w : Zw) (a0 : Nat) (h0 : zObj S a0 8) (a1 : Int32) (a2 : Int32) : ∀ i, f_X8_report S w a0 a1 a2 = some i → zMr E yX8_report cX8_report 3 ((some .int)) 1 0 0 [.ref a0, .int a1, .int a2] S w ((emW eI S) i) :=
  fun i hi => z_enter (by decide +kernel) (Nat.le_of_ble_eq_true rfl) (mw_X8_report hW w a0 h0 a1 a2 i hi)
/-! ParkingRobotModel.stored ()I : P, depth 0 -/
abbrev i_X8_stored : Zm := (yX8_stored.cls, cX8_stored, 1, (some .int), [], yX8_stored.name)
def f_X8_stored (S : Zs) (w : Zw) (a0 : Nat) : Option (Int32) :=
  if zin (1 : Int32) (zlen S (zr S a0 1)) = true then if zin (2 : Int32) (zlen S (zr S a0 1)) = true then some ((w (zr S a0 1) (zix (1 : Int32))) - (w (zr S a0 1) (zix (2 : Int32)))) else none else none
theorem mw_X8_stored {E : ZE} {S : Zs} (hW : zWF S) (w : Zw) (a0 : Nat) (h0 : zObj S a0 8) : zOk (E, i_X8_stored, 0) 0 0 S w 0 [(0, .ref a0)] [] (emP eI S w) (f_X8_stored S w a0) := by
  unfold f_X8_stored
  refine z_aload_n 0 dX8_stored_0 rfl (z_getR zc8 1 (by decide) rfl gw1108 h0 (zW_some hW h0 1 rfl) dX8_stored_1 (z_iconst dX8_stored_4 zi_1 ?_))
  refine z_chk (fun c1 => ?_)
  refine z_iald (zW_arr hW h0 1 0 rfl) c1 dX8_stored_5 (z_aload_n 0 dX8_stored_6 rfl (z_getR zc8 1 (by decide) rfl gw1108 h0 (zW_some hW h0 1 rfl) dX8_stored_7 (z_iconst dX8_stored_10 zi_2 ?_)))
  refine z_chk (fun c2 => ?_)
  refine z_iald (zW_arr hW h0 1 0 rfl) c2 dX8_stored_11 (z_isub dX8_stored_12 ?_)
  exact z_iret zemP rfl dX8_stored_13

theorem m_X8_stored {E : ZE} {S : Zs} (hW : zWF S) (w : Zw) (a0 : Nat) (h0 : zObj S a0 8) : ∀ i, f_X8_stored S w a0 = some i → zMr E yX8_stored cX8_stored 1 ((some .int)) 0 0 0 [.ref a0] S w ((emP eI S w) i) :=
  fun i hi => z_enter (by decide +kernel) (Nat.le_of_ble_eq_true rfl) (mw_X8_stored hW w a0 h0 i hi)
/-! ParkingRobotModel.restore ()I : W, depth 1 -/
abbrev i_X8_restore : Zm := (yX8_restore.cls, cX8_restore, 1, (some .int), [], yX8_restore.name)
def f_X8_restore (S : Zs) (w : Zw) (a0 : Nat) : Option (Int32 × Zw) :=
  zlet (zput w a0 0 (0 : Int32)) fun w1 => if (w1 a0 7) = 0 then (f_X8_fails S w1 a0 (1 : Int32)).bind fun r8 => some (r8.1, r8.2) else (f_X8_copies S w1 (zr S a0 4) (0 : Int32) (zr S a0 1) (0 : Int32)).bind fun r3 => zlet (zput r3.2 a0 6 (0 : Int32)) fun w5 => (f_X8_stored S w5 a0).bind fun v6 => some (v6, w5)
theorem mw_X8_restore {E : ZE} {S : Zs} (hW : zWF S) (w : Zw) (a0 : Nat) (h0 : zObj S a0 8) : zOk (E, i_X8_restore, 1) 0 0 S w 0 [(0, .ref a0)] [] (emW eI S) (f_X8_restore S w a0) := by
  unfold f_X8_restore
  refine z_aload_n 0 dX8_restore_0 rfl (z_iconst dX8_restore_1 zi_0 ?_)
  refine z_putI zc8 0 (by decide) (Or.inl rfl) rfl gw1107 h0 dX8_restore_2 (z_letw (fun w1 => ?_))
  refine z_aload_n 0 dX8_restore_5 rfl (z_getI zc8 7 (by decide) rfl gw1114 h0 dX8_restore_6 ?_)
  refine z_if_ne 18 dX8_restore_9 rfl (fun q2 => ?_) (fun q2 => ?_)
  · refine z_aload_n 0 dX8_restore_18 rfl (z_getR zc8 4 (by decide) rfl gw1111 h0 (zW_some hW h0 4 rfl) dX8_restore_19 (z_iconst dX8_restore_22 zi_0 (z_aload_n 0 dX8_restore_23 rfl (z_getR zc8 1 (by decide) rfl gw1108 h0 (zW_some hW h0 1 rfl) dX8_restore_24 (z_iconst dX8_restore_27 zi_0 ?_)))))
    refine z_bind (fun r3 hb4 => ?_)
    refine z_callS (kc' := 0) (ks' := 0) (v := none) (S1 := S) (w1 := r3.2) (st := []) [.ref (zr S a0 4), .int (0 : Int32), .ref (zr S a0 1), .int (0 : Int32)] (m_X8_copies hW w1 (zr S a0 4) (zW_arr hW h0 4 0 rfl) (0 : Int32) (zr S a0 1) (zW_arr hW h0 1 0 rfl) (0 : Int32) r3 hb4) zy_X8_copies gw1198 gw1197 (Nat.le_of_ble_eq_true rfl) (Nat.le_of_ble_eq_true rfl) (Nat.le_of_ble_eq_true rfl) (Nat.le_of_ble_eq_true rfl) (zal hW) rfl dX8_restore_28 (z_at 31 _ [] rfl rfl rfl ?_)
    refine z_aload_n 0 dX8_restore_31 rfl (z_iconst dX8_restore_32 zi_0 ?_)
    refine z_putI zc8 6 (by decide) (Or.inl rfl) rfl gw1113 h0 dX8_restore_33 (z_letw (fun w5 => ?_))
    refine z_aload_n 0 dX8_restore_36 rfl ?_
    refine z_bind (fun v6 hb7 => ?_)
    refine z_callV (kc' := 0) (ks' := 0) (v := (some (.int v6))) (S1 := S) (w1 := w5) (st := []) [] (m_X8_stored hW w5 a0 h0 v6 hb7) zc8 h0 zy_X8_stored gw1504 gp65 gw1502 (Nat.le_of_ble_eq_true rfl) (Nat.le_of_ble_eq_true rfl) (Nat.le_of_ble_eq_true rfl) (Nat.le_of_ble_eq_true rfl) (zal hW) rfl dX8_restore_37 (z_at 40 _ [.int v6] rfl rfl rfl ?_)
    exact z_iret zemW rfl dX8_restore_40
  · refine z_aload_n 0 dX8_restore_12 rfl (z_iconst dX8_restore_13 zi_1 ?_)
    refine z_bind (fun r8 hb9 => ?_)
    refine z_callV (kc' := 0) (ks' := 0) (v := (some (.int r8.1))) (S1 := S) (w1 := r8.2) (st := []) [.int (1 : Int32)] (m_X8_fails hW w1 a0 h0 (1 : Int32) r8 hb9) zc8 h0 zy_X8_fails gw1215 gp27 gw1213 (Nat.le_of_ble_eq_true rfl) (Nat.le_of_ble_eq_true rfl) (Nat.le_of_ble_eq_true rfl) (Nat.le_of_ble_eq_true rfl) (zal hW) rfl dX8_restore_14 (z_at 17 _ [.int r8.1] rfl rfl rfl ?_)
    exact z_iret zemW rfl dX8_restore_17

theorem m_X8_restore {E : ZE} {S : Zs} (hW : zWF S) (w : Zw) (a0 : Nat) (h0 : zObj S a0 8) : ∀ i, f_X8_restore S w a0 = some i → zMr E yX8_restore cX8_restore 1 ((some .int)) 1 0 0 [.ref a0] S w ((emW eI S) i) :=
  fun i hi => z_enter (by decide +kernel) (Nat.le_of_ble_eq_true rfl) (mw_X8_restore hW w a0 h0 i hi)
/-! ParkingRobotModel.retrieve (I)I : W, depth 11 -/
abbrev i_X8_retrieve : Zm := (yX8_retrieve.cls, cX8_retrieve, 2, (some .int), [], yX8_retrieve.name)
def f_X8_retrieve (S : Zs) (w : Zw) (a0 : Nat) (a1 : Int32) : Option (Int32 × Zw) :=
  (f_X8_begins S w a0).bind fun r1 => (f_X8_retrieves S r1.2 a0 a1).bind fun r3 => (f_X8_ends S r3.2 a0 r3.1).bind fun r5 => some (r5.1, r5.2)
theorem mw_X8_retrieve {E : ZE} {S : Zs} (hW : zWF S) (w : Zw) (a0 : Nat) (h0 : zObj S a0 8) (a1 : Int32) : zOk (E, i_X8_retrieve, 11) 0 0 S w 0 [(0, .ref a0), (1, .int a1)] [] (emW eI S) (f_X8_retrieve S w a0 a1) := by
  unfold f_X8_retrieve
  refine z_aload_n 0 dX8_retrieve_0 rfl ?_
  refine z_bind (fun r1 hb2 => ?_)
  refine z_callV (kc' := 0) (ks' := 0) (v := none) (S1 := S) (w1 := r1.2) (st := []) [] (m_X8_begins hW w a0 h0 r1 hb2) zc8 h0 zy_X8_begins gw1195 gp25 gw1193 (Nat.le_of_ble_eq_true rfl) (Nat.le_of_ble_eq_true rfl) (Nat.le_of_ble_eq_true rfl) (Nat.le_of_ble_eq_true rfl) (zal hW) rfl dX8_retrieve_1 (z_at 4 _ [] rfl rfl rfl ?_)
  refine z_aload_n 0 dX8_retrieve_4 rfl (z_aload_n 0 dX8_retrieve_5 rfl (z_iload_n 1 dX8_retrieve_6 rfl ?_))
  refine z_bind (fun r3 hb4 => ?_)
  refine z_callV (kc' := 0) (ks' := 0) (v := (some (.int r3.1))) (S1 := S) (w1 := r3.2) (st := [.ref a0]) [.int a1] (m_X8_retrieves hW r1.2 a0 h0 a1 r3 hb4) zc8 h0 zy_X8_retrieves gw1297 gp41 gw1295 (Nat.le_of_ble_eq_true rfl) (Nat.le_of_ble_eq_true rfl) (Nat.le_of_ble_eq_true rfl) (Nat.le_of_ble_eq_true rfl) (zal hW) rfl dX8_retrieve_7 (z_at 10 _ [.int r3.1, .ref a0] rfl rfl rfl ?_)
  refine z_bind (fun r5 hb6 => ?_)
  refine z_callV (kc' := 0) (ks' := 0) (v := (some (.int r5.1))) (S1 := S) (w1 := r5.2) (st := []) [.int r3.1] (m_X8_ends hW r3.2 a0 h0 r3.1 r5 hb6) zc8 h0 zy_X8_ends gw1289 gp40 gw1287 (Nat.le_of_ble_eq_true rfl) (Nat.le_of_ble_eq_true rfl) (Nat.le_of_ble_eq_true rfl) (Nat.le_of_ble_eq_true rfl) (zal hW) rfl dX8_retrieve_10 (z_at 13 _ [.int r5.1] rfl rfl rfl ?_)
  exact z_iret zemW rfl dX8_retrieve_13

theorem m_X8_retrieve {E : ZE} {S : Zs} (hW : zWF S) (w : Zw) (a0 : Nat) (h0 : zObj S a0 8) (a1 : Int32) : ∀ i, f_X8_retrieve S w a0 a1 = some i → zMr E yX8_retrieve cX8_retrieve 2 ((some .int)) 11 0 0 [.ref a0, .int a1] S w ((emW eI S) i) :=
  fun i hi => z_enter (by decide +kernel) (Nat.le_of_ble_eq_true rfl) (mw_X8_retrieve hW w a0 h0 a1 i hi)
/-! ParkingRobotModel.save ()I : W, depth 1 -/
abbrev i_X8_save : Zm := (yX8_save.cls, cX8_save, 1, (some .int), [], yX8_save.name)
def f_X8_save (S : Zs) (w : Zw) (a0 : Nat) : Option (Int32 × Zw) :=
  (f_X8_copies S w (zr S a0 1) (0 : Int32) (zr S a0 4) (0 : Int32)).bind fun r1 => zlet (zput r1.2 a0 7 (1 : Int32)) fun w3 => (f_X8_stored S w3 a0).bind fun v4 => some (v4, w3)
theorem mw_X8_save {E : ZE} {S : Zs} (hW : zWF S) (w : Zw) (a0 : Nat) (h0 : zObj S a0 8) : zOk (E, i_X8_save, 1) 0 0 S w 0 [(0, .ref a0)] [] (emW eI S) (f_X8_save S w a0) := by
  unfold f_X8_save
  refine z_aload_n 0 dX8_save_0 rfl (z_getR zc8 1 (by decide) rfl gw1108 h0 (zW_some hW h0 1 rfl) dX8_save_1 (z_iconst dX8_save_4 zi_0 (z_aload_n 0 dX8_save_5 rfl (z_getR zc8 4 (by decide) rfl gw1111 h0 (zW_some hW h0 4 rfl) dX8_save_6 (z_iconst dX8_save_9 zi_0 ?_)))))
  refine z_bind (fun r1 hb2 => ?_)
  refine z_callS (kc' := 0) (ks' := 0) (v := none) (S1 := S) (w1 := r1.2) (st := []) [.ref (zr S a0 1), .int (0 : Int32), .ref (zr S a0 4), .int (0 : Int32)] (m_X8_copies hW w (zr S a0 1) (zW_arr hW h0 1 0 rfl) (0 : Int32) (zr S a0 4) (zW_arr hW h0 4 0 rfl) (0 : Int32) r1 hb2) zy_X8_copies gw1198 gw1197 (Nat.le_of_ble_eq_true rfl) (Nat.le_of_ble_eq_true rfl) (Nat.le_of_ble_eq_true rfl) (Nat.le_of_ble_eq_true rfl) (zal hW) rfl dX8_save_10 (z_at 13 _ [] rfl rfl rfl ?_)
  refine z_aload_n 0 dX8_save_13 rfl (z_iconst dX8_save_14 zi_1 ?_)
  refine z_putI zc8 7 (by decide) (Or.inr ⟨rfl, Or.inr rfl⟩) rfl gw1114 h0 dX8_save_15 (z_letw (fun w3 => ?_))
  refine z_aload_n 0 dX8_save_18 rfl ?_
  refine z_bind (fun v4 hb5 => ?_)
  refine z_callV (kc' := 0) (ks' := 0) (v := (some (.int v4))) (S1 := S) (w1 := w3) (st := []) [] (m_X8_stored hW w3 a0 h0 v4 hb5) zc8 h0 zy_X8_stored gw1504 gp65 gw1502 (Nat.le_of_ble_eq_true rfl) (Nat.le_of_ble_eq_true rfl) (Nat.le_of_ble_eq_true rfl) (Nat.le_of_ble_eq_true rfl) (zal hW) rfl dX8_save_19 (z_at 22 _ [.int v4] rfl rfl rfl ?_)
  exact z_iret zemW rfl dX8_save_22

theorem m_X8_save {E : ZE} {S : Zs} (hW : zWF S) (w : Zw) (a0 : Nat) (h0 : zObj S a0 8) : ∀ i, f_X8_save S w a0 = some i → zMr E yX8_save cX8_save 1 ((some .int)) 1 0 0 [.ref a0] S w ((emW eI S) i) :=
  fun i hi => z_enter (by decide +kernel) (Nat.le_of_ble_eq_true rfl) (mw_X8_save hW w a0 h0 i hi)
/-! ParkingRobotModel.setClosed (IZ)Z : W, depth 3 -/
abbrev i_X8_setClosed : Zm := (yX8_setClosed.cls, cX8_setClosed, 3, (some .boolean), [], yX8_setClosed.name)
def f_X8_setClosed_j16 (S : Zs) (w : Zw) (y0 : Int32) (y1 : Int32) (y2 : Nat) (y3 : Nat) : Option (Int32 × Zw) :=
  (f_X8_closes S w y2 y1 y0).bind fun r4 => (f_X8_ends S r4.2 y3 r4.1).bind fun r6 => if r6.1 = (1 : Int32) then some ((1 : Int32), r6.2) else some ((0 : Int32), r6.2)
theorem m_X8_setClosed_j16 {E : ZE} {S : Zs} (hW : zWF S) (w : Zw) (y0 : Int32) (y1 : Int32) (y2 : Nat) (hy2 : zObj S y2 8) (y3 : Nat) (hy3 : zObj S y3 8) : zOk (E, i_X8_setClosed, 3) 0 0 S w 16 [] [.int y0, .int y1, .ref y2, .ref y3] (emW eI S) (f_X8_setClosed_j16 S w y0 y1 y2 y3) := by
  unfold f_X8_setClosed_j16
  refine z_bind (fun r4 hb5 => ?_)
  refine z_callV (kc' := 0) (ks' := 0) (v := (some (.int r4.1))) (S1 := S) (w1 := r4.2) (st := [.ref y3]) [.int y1, .int y0] (m_X8_closes hW w y2 hy2 y1 y0 r4 hb5) zc8 hy2 zy_X8_closes gw1349 gp50 gw1347 (Nat.le_of_ble_eq_true rfl) (Nat.le_of_ble_eq_true rfl) (Nat.le_of_ble_eq_true rfl) (Nat.le_of_ble_eq_true rfl) (zal hW) rfl dX8_setClosed_16 (z_at 19 _ [.int r4.1, .ref y3] rfl rfl rfl ?_)
  refine z_bind (fun r6 hb7 => ?_)
  refine z_callV (kc' := 0) (ks' := 0) (v := (some (.int r6.1))) (S1 := S) (w1 := r6.2) (st := []) [.int r4.1] (m_X8_ends hW r4.2 y3 hy3 r4.1 r6 hb7) zc8 hy3 zy_X8_ends gw1289 gp40 gw1287 (Nat.le_of_ble_eq_true rfl) (Nat.le_of_ble_eq_true rfl) (Nat.le_of_ble_eq_true rfl) (Nat.le_of_ble_eq_true rfl) (zal hW) rfl dX8_setClosed_19 (z_at 22 _ [.int r6.1] rfl rfl rfl ?_)
  refine z_iconst dX8_setClosed_22 zi_1 ?_
  refine z_icmp_ne 30 dX8_setClosed_23 rfl (fun q8 => ?_) (fun q8 => ?_)
  · refine z_iconst dX8_setClosed_30 zi_0 ?_
    exact z_zret zemW rfl rfl dX8_setClosed_31
  · refine z_iconst dX8_setClosed_26 zi_1 (z_goto 31 dX8_setClosed_27 rfl ?_)
    exact z_zret zemW rfl rfl dX8_setClosed_31

def f_X8_setClosed (S : Zs) (w : Zw) (a0 : Nat) (a1 : Int32) (a2 : Int32) : Option (Int32 × Zw) :=
  (f_X8_begins S w a0).bind fun r1 => if a2 = 0 then f_X8_setClosed_j16 S r1.2 (0 : Int32) a1 a0 a0  else f_X8_setClosed_j16 S r1.2 (1 : Int32) a1 a0 a0 
theorem mw_X8_setClosed {E : ZE} {S : Zs} (hW : zWF S) (w : Zw) (a0 : Nat) (h0 : zObj S a0 8) (a1 : Int32) (a2 : Int32) : zOk (E, i_X8_setClosed, 3) 0 0 S w 0 [(0, .ref a0), (1, .int a1), (2, .int a2)] [] (emW eI S) (f_X8_setClosed S w a0 a1 a2) := by
  unfold f_X8_setClosed
  refine z_aload_n 0 dX8_setClosed_0 rfl ?_
  refine z_bind (fun r1 hb2 => ?_)
  refine z_callV (kc' := 0) (ks' := 0) (v := none) (S1 := S) (w1 := r1.2) (st := []) [] (m_X8_begins hW w a0 h0 r1 hb2) zc8 h0 zy_X8_begins gw1195 gp25 gw1193 (Nat.le_of_ble_eq_true rfl) (Nat.le_of_ble_eq_true rfl) (Nat.le_of_ble_eq_true rfl) (Nat.le_of_ble_eq_true rfl) (zal hW) rfl dX8_setClosed_1 (z_at 4 _ [] rfl rfl rfl ?_)
  refine z_aload_n 0 dX8_setClosed_4 rfl (z_aload_n 0 dX8_setClosed_5 rfl (z_iload_n 1 dX8_setClosed_6 rfl (z_iload_n 2 dX8_setClosed_7 rfl ?_)))
  refine z_if_eq 15 dX8_setClosed_8 rfl (fun q3 => ?_) (fun q3 => ?_)
  · refine z_iconst dX8_setClosed_15 zi_0 ?_
    refine z_sub (lv' := []) [] rfl ?_
    refine z_pc (pc' := 16) rfl ?_
    exact m_X8_setClosed_j16 hW r1.2 (0 : Int32) a1 a0 h0 a0 h0 
  · refine z_iconst dX8_setClosed_11 zi_1 (z_goto 16 dX8_setClosed_12 rfl ?_)
    refine z_sub (lv' := []) [] rfl ?_
    refine z_pc (pc' := 16) rfl ?_
    exact m_X8_setClosed_j16 hW r1.2 (1 : Int32) a1 a0 h0 a0 h0 

theorem m_X8_setClosed {E : ZE} {S : Zs} (hW : zWF S) (w : Zw) (a0 : Nat) (h0 : zObj S a0 8) (a1 : Int32) (a2 : Int32) : ∀ i, f_X8_setClosed S w a0 a1 a2 = some i → zMr E yX8_setClosed cX8_setClosed 3 ((some .boolean)) 3 0 0 [.ref a0, .int a1, .int a2] S w ((emW eI S) i) :=
  fun i hi => z_enter (by decide +kernel) (Nat.le_of_ble_eq_true rfl) (mw_X8_setClosed hW w a0 h0 a1 a2 i hi)
/-! ParkingRobotModel.store (II)I : W, depth 10 -/
abbrev i_X8_store : Zm := (yX8_store.cls, cX8_store, 3, (some .int), [], yX8_store.name)
def f_X8_store (S : Zs) (w : Zw) (a0 : Nat) (a1 : Int32) (a2 : Int32) : Option (Int32 × Zw) :=
  (f_X8_begins S w a0).bind fun r1 => (f_X8_stores S r1.2 a0 a1 a2).bind fun r3 => (f_X8_ends S r3.2 a0 r3.1).bind fun r5 => some (r5.1, r5.2)
theorem mw_X8_store {E : ZE} {S : Zs} (hW : zWF S) (w : Zw) (a0 : Nat) (h0 : zObj S a0 8) (a1 : Int32) (a2 : Int32) : zOk (E, i_X8_store, 10) 0 0 S w 0 [(0, .ref a0), (1, .int a1), (2, .int a2)] [] (emW eI S) (f_X8_store S w a0 a1 a2) := by
  unfold f_X8_store
  refine z_aload_n 0 dX8_store_0 rfl ?_
  refine z_bind (fun r1 hb2 => ?_)
  refine z_callV (kc' := 0) (ks' := 0) (v := none) (S1 := S) (w1 := r1.2) (st := []) [] (m_X8_begins hW w a0 h0 r1 hb2) zc8 h0 zy_X8_begins gw1195 gp25 gw1193 (Nat.le_of_ble_eq_true rfl) (Nat.le_of_ble_eq_true rfl) (Nat.le_of_ble_eq_true rfl) (Nat.le_of_ble_eq_true rfl) (zal hW) rfl dX8_store_1 (z_at 4 _ [] rfl rfl rfl ?_)
  refine z_aload_n 0 dX8_store_4 rfl (z_aload_n 0 dX8_store_5 rfl (z_iload_n 1 dX8_store_6 rfl (z_iload_n 2 dX8_store_7 rfl ?_)))
  refine z_bind (fun r3 hb4 => ?_)
  refine z_callV (kc' := 0) (ks' := 0) (v := (some (.int r3.1))) (S1 := S) (w1 := r3.2) (st := [.ref a0]) [.int a1, .int a2] (m_X8_stores hW r1.2 a0 h0 a1 a2 r3 hb4) zc8 h0 zy_X8_stores gw1202 gp26 gw1200 (Nat.le_of_ble_eq_true rfl) (Nat.le_of_ble_eq_true rfl) (Nat.le_of_ble_eq_true rfl) (Nat.le_of_ble_eq_true rfl) (zal hW) rfl dX8_store_8 (z_at 11 _ [.int r3.1, .ref a0] rfl rfl rfl ?_)
  refine z_bind (fun r5 hb6 => ?_)
  refine z_callV (kc' := 0) (ks' := 0) (v := (some (.int r5.1))) (S1 := S) (w1 := r5.2) (st := []) [.int r3.1] (m_X8_ends hW r3.2 a0 h0 r3.1 r5 hb6) zc8 h0 zy_X8_ends gw1289 gp40 gw1287 (Nat.le_of_ble_eq_true rfl) (Nat.le_of_ble_eq_true rfl) (Nat.le_of_ble_eq_true rfl) (Nat.le_of_ble_eq_true rfl) (zal hW) rfl dX8_store_11 (z_at 14 _ [.int r5.1] rfl rfl rfl ?_)
  exact z_iret zemW rfl dX8_store_14

theorem m_X8_store {E : ZE} {S : Zs} (hW : zWF S) (w : Zw) (a0 : Nat) (h0 : zObj S a0 8) (a1 : Int32) (a2 : Int32) : ∀ i, f_X8_store S w a0 a1 a2 = some i → zMr E yX8_store cX8_store 3 ((some .int)) 10 0 0 [.ref a0, .int a1, .int a2] S w ((emW eI S) i) :=
  fun i hi => z_enter (by decide +kernel) (Nat.le_of_ble_eq_true rfl) (mw_X8_store hW w a0 h0 a1 a2 i hi)
/-! ParkingRobotModel.thrown ()I : T, depth 0 -/
abbrev i_X8_thrown : Zm := (yX8_thrown.cls, cX8_thrown, 1, (some .int), [], yX8_thrown.name)
def f_X8_thrown (S : Zs) (w : Zw) (a0 : Nat) : Int32 :=
  (w a0 0)
theorem mw_X8_thrown {E : ZE} {S : Zs} (hW : zWF S) (w : Zw) (a0 : Nat) (h0 : zObj S a0 8) : zOk (E, i_X8_thrown, 0) 0 0 S w 0 [(0, .ref a0)] [] (emP eI S w) (some (f_X8_thrown S w a0)) := by
  unfold f_X8_thrown
  refine z_aload_n 0 dX8_thrown_0 rfl (z_getI zc8 0 (by decide) rfl gw1107 h0 dX8_thrown_1 ?_)
  exact z_iret zemP rfl dX8_thrown_4

theorem m_X8_thrown {E : ZE} {S : Zs} (hW : zWF S) (w : Zw) (a0 : Nat) (h0 : zObj S a0 8) : zMr E yX8_thrown cX8_thrown 1 ((some .int)) 0 0 0 [.ref a0] S w (.inl (eI (f_X8_thrown S w a0)), S, w) :=
  z_enter (by decide +kernel) (Nat.le_of_ble_eq_true rfl) (mw_X8_thrown hW w a0 h0 _ rfl)
/-! ParkingRobotModel.tidy ()I : W, depth 9 -/
abbrev i_X8_tidy : Zm := (yX8_tidy.cls, cX8_tidy, 6, (some .int), [], yX8_tidy.name)
def f_X8_tidy_b87 (S : Zs) (x0 : Nat) (x1 : Int32) (k : (Int32 × Int32 × Zw) → Option (Int32 × Zw)) (x2 : Int32) (x3 : Int32) (w : Zw) : Option (Int32 × Zw) :=
  if x1 ≤ x3 then (f_X8_ends S w x0 x2).bind fun r5 => some (r5.1, r5.2) else if zin x3 (zlen S (zr S x0 21)) = true then (f_X8_isWrong S w x0 (w (zr S x0 21) (zix x3))).bind fun v8 => if v8 = 0 then k (x2, (x3 + (1 : Int32)), w) else if zin x3 (zlen S (zr S x0 21)) = true then if zin (((79 : Int32) + (w (zr S x0 21) (zix x3))) - (1 : Int32)) (zlen S (zr S x0 1)) = true then zlet (w (zr S x0 1) (zix (((79 : Int32) + (w (zr S x0 21) (zix x3))) - (1 : Int32)))) fun z13 => (f_X8_of S w x0 z13 (0 : Int32)).bind fun v14 => (f_X8_pickup S w x0 z13).bind fun v16 => (f_X8_bayOf S w x0 z13).bind fun v18 => (f_X8_chosen S w x0 v14 v16 v18).bind fun v20 => if v20 < 0 then k (x2, (x3 + (1 : Int32)), w) else (f_X8_pickup S w x0 z13).bind fun v23 => (f_X8_isBad S w x0 v20 v23).bind fun v25 => if v25 = 0 then (f_X8_moves S w x0 z13 v20).bind fun r28 => k ((x2 + (1 : Int32)), (x3 + (1 : Int32)), r28.2) else k (x2, (x3 + (1 : Int32)), w) else none else none else none
def f_X8_tidy_l87 (S : Zs) (x0 : Nat) (x1 : Int32) (a : Int32 × Int32 × Zw) : Option (Int32 × Zw) :=
  zlp (fun k a => f_X8_tidy_b87 S x0 x1 k a.1 a.2.1 a.2.2) zFU a
theorem m_X8_tidy_l87 {E : ZE} {S : Zs} (hW : zWF S) (x0 : Nat) (hx0 : zObj S x0 8) (x1 : Int32) : ∀ a : Int32 × Int32 × Zw, zOk (E, i_X8_tidy, 9) 0 0 S a.2.2 87 [(0, .ref x0), (1, .int x1), (2, .int a.1), (3, .int a.2.1)] [] (emW eI S) (f_X8_tidy_l87 S x0 x1 a) := by
  intro a
  refine z_lp (P := fun _ => True) (W9 := fun a : Int32 × Int32 × Zw => a.2.2) (L9 := fun a : Int32 × Int32 × Zw => [(0, .ref x0), (1, .int x1), (2, .int a.1), (3, .int a.2.1)]) (T9 := fun _ => []) (fun k hk9 a _ => ?_) zFU a trivial
  have hk : ∀ a : Int32 × Int32 × Zw, zOk (E, i_X8_tidy, 9) 0 0 S a.2.2 87 [(0, .ref x0), (1, .int x1), (2, .int a.1), (3, .int a.2.1)] [] (emW eI S) (k a) := fun a => hk9 a trivial
  clear hk9
  obtain ⟨x2, x3, w⟩ := a
  show zOk (E, i_X8_tidy, 9) 0 0 S w 87 [(0, .ref x0), (1, .int x1), (2, .int x2), (3, .int x3)] [] (emW eI S) (f_X8_tidy_b87 S x0 x1 k x2 x3 w)
  unfold f_X8_tidy_b87
  refine z_iload_n 3 dX8_tidy_87 rfl (z_iload_n 1 dX8_tidy_88 rfl ?_)
  refine z_icmp_ge 191 dX8_tidy_89 rfl (fun q4 => ?_) (fun q4 => ?_)
  · refine z_aload_n 0 dX8_tidy_191 rfl (z_iload_n 2 dX8_tidy_192 rfl ?_)
    refine z_bind (fun r5 hb6 => ?_)
    refine z_callV (kc' := 0) (ks' := 0) (v := (some (.int r5.1))) (S1 := S) (w1 := r5.2) (st := []) [.int x2] (m_X8_ends hW w x0 hx0 x2 r5 hb6) zc8 hx0 zy_X8_ends gw1289 gp40 gw1287 (Nat.le_of_ble_eq_true rfl) (Nat.le_of_ble_eq_true rfl) (Nat.le_of_ble_eq_true rfl) (Nat.le_of_ble_eq_true rfl) (zal hW) rfl dX8_tidy_193 (z_at 196 _ [.int r5.1] rfl rfl rfl ?_)
    exact z_iret zemW rfl dX8_tidy_196
  · refine z_aload_n 0 dX8_tidy_92 rfl (z_aload_n 0 dX8_tidy_93 rfl (z_getR zc8 21 (by decide) rfl gw1128 hx0 (zW_some hW hx0 21 rfl) dX8_tidy_94 (z_iload_n 3 dX8_tidy_97 rfl ?_)))
    refine z_chk (fun c7 => ?_)
    refine z_iald (zW_arr hW hx0 21 0 rfl) c7 dX8_tidy_98 ?_
    refine z_bind (fun v8 hb9 => ?_)
    refine z_callV (kc' := 0) (ks' := 0) (v := (some (.int v8))) (S1 := S) (w1 := w) (st := []) [.int (w (zr S x0 21) (zix x3))] (m_X8_isWrong hW w x0 hx0 (w (zr S x0 21) (zix x3)) v8 hb9) zc8 hx0 zy_X8_isWrong gw1424 gp57 gw1422 (Nat.le_of_ble_eq_true rfl) (Nat.le_of_ble_eq_true rfl) (Nat.le_of_ble_eq_true rfl) (Nat.le_of_ble_eq_true rfl) (zal hW) rfl dX8_tidy_99 (z_at 102 _ [.int v8] rfl rfl rfl ?_)
    refine z_if_ne 108 dX8_tidy_102 rfl (fun q10 => ?_) (fun q10 => ?_)
    · refine z_aload_n 0 dX8_tidy_108 rfl (z_getR zc8 1 (by decide) rfl gw1108 hx0 (zW_some hW hx0 1 rfl) dX8_tidy_109 (z_bipush dX8_tidy_112 zb_79 (z_aload_n 0 dX8_tidy_114 rfl (z_getR zc8 21 (by decide) rfl gw1128 hx0 (zW_some hW hx0 21 rfl) dX8_tidy_115 (z_iload_n 3 dX8_tidy_118 rfl ?_)))))
      refine z_chk (fun c11 => ?_)
      refine z_iald (zW_arr hW hx0 21 0 rfl) c11 dX8_tidy_119 (z_iadd dX8_tidy_120 (z_iconst dX8_tidy_121 zi_1 (z_isub dX8_tidy_122 ?_)))
      refine z_chk (fun c12 => ?_)
      refine z_iald (zW_arr hW hx0 1 0 rfl) c12 dX8_tidy_123 ?_
      refine z_let (a := (w (zr S x0 1) (zix (((79 : Int32) + (w (zr S x0 21) (zix x3))) - (1 : Int32))))) (fun z13 => [(0, .ref x0), (1, .int x1), (2, .int x2), (3, .int x3)]) (fun z13 => .int z13 :: []) (fun z13 => ?_)
      refine z_istore (lv' := [(4, .int z13), (0, .ref x0), (1, .int x1), (2, .int x2), (3, .int x3)]) dX8_tidy_124 (Nat.le_of_ble_eq_true rfl) rfl (z_aload_n 1 dX8_tidy_126 rfl (z_aload_n 1 dX8_tidy_127 rfl (z_iload 0 dX8_tidy_128 rfl (z_iconst dX8_tidy_130 zi_0 ?_))))
      refine z_bind (fun v14 hb15 => ?_)
      refine z_callV (kc' := 0) (ks' := 0) (v := (some (.int v14))) (S1 := S) (w1 := w) (st := [.ref x0]) [.int z13, .int (0 : Int32)] (m_X8_of hW w x0 hx0 z13 (0 : Int32) v14 hb15) zc8 hx0 zy_X8_of gw1255 gp33 gw1253 (Nat.le_of_ble_eq_true rfl) (Nat.le_of_ble_eq_true rfl) (Nat.le_of_ble_eq_true rfl) (Nat.le_of_ble_eq_true rfl) (zal hW) rfl dX8_tidy_131 (z_at 134 _ [.int v14, .ref x0] rfl rfl rfl ?_)
      refine z_aload_n 1 dX8_tidy_134 rfl (z_iload 0 dX8_tidy_135 rfl ?_)
      refine z_bind (fun v16 hb17 => ?_)
      refine z_callV (kc' := 0) (ks' := 0) (v := (some (.int v16))) (S1 := S) (w1 := w) (st := [.int v14, .ref x0]) [.int z13] (m_X8_pickup hW w x0 hx0 z13 v16 hb17) zc8 hx0 zy_X8_pickup gw1251 gp32 gw1249 (Nat.le_of_ble_eq_true rfl) (Nat.le_of_ble_eq_true rfl) (Nat.le_of_ble_eq_true rfl) (Nat.le_of_ble_eq_true rfl) (zal hW) rfl dX8_tidy_137 (z_at 140 _ [.int v16, .int v14, .ref x0] rfl rfl rfl ?_)
      refine z_aload_n 1 dX8_tidy_140 rfl (z_iload 0 dX8_tidy_141 rfl ?_)
      refine z_bind (fun v18 hb19 => ?_)
      refine z_callV (kc' := 0) (ks' := 0) (v := (some (.int v18))) (S1 := S) (w1 := w) (st := [.int v16, .int v14, .ref x0]) [.int z13] (m_X8_bayOf hW w x0 hx0 z13 v18 hb19) zc8 hx0 zy_X8_bayOf gw1305 gp43 gw1303 (Nat.le_of_ble_eq_true rfl) (Nat.le_of_ble_eq_true rfl) (Nat.le_of_ble_eq_true rfl) (Nat.le_of_ble_eq_true rfl) (zal hW) rfl dX8_tidy_143 (z_at 146 _ [.int v18, .int v16, .int v14, .ref x0] rfl rfl rfl ?_)
      refine z_bind (fun v20 hb21 => ?_)
      refine z_callV (kc' := 0) (ks' := 0) (v := (some (.int v20))) (S1 := S) (w1 := w) (st := []) [.int v14, .int v16, .int v18] (m_X8_chosen hW w x0 hx0 v14 v16 v18 v20 hb21) zc8 hx0 zy_X8_chosen gw1219 gp28 gw1217 (Nat.le_of_ble_eq_true rfl) (Nat.le_of_ble_eq_true rfl) (Nat.le_of_ble_eq_true rfl) (Nat.le_of_ble_eq_true rfl) (zal hW) rfl dX8_tidy_146 (z_at 149 _ [.int v20] rfl rfl rfl ?_)
      refine z_istore (lv' := [(5, .int v20), (4, .int z13), (0, .ref x0), (1, .int x1), (2, .int x2), (3, .int x3)]) dX8_tidy_149 (Nat.le_of_ble_eq_true rfl) rfl (z_iload 0 dX8_tidy_151 rfl ?_)
      refine z_if_lt 185 dX8_tidy_153 rfl (fun q22 => ?_) (fun q22 => ?_)
      · refine z_iinc (v := (x3 + (1 : Int32))) (lv' := [(3, .int (x3 + (1 : Int32))), (5, .int v20), (4, .int z13), (0, .ref x0), (1, .int x1), (2, .int x2)]) 5 dX8_tidy_185 rfl (zi_inc _ zi_1) (Nat.le_of_ble_eq_true rfl) rfl (z_goto 87 dX8_tidy_188 rfl ?_)
        refine z_sub (lv' := [(0, .ref x0), (1, .int x1), (2, .int x2), (3, .int (x3 + (1 : Int32)))]) [3, 4, 5, 0] rfl ?_
        refine z_pc (pc' := 87) rfl ?_
        exact hk (x2, (x3 + (1 : Int32)), w)
      · refine z_aload_n 2 dX8_tidy_156 rfl (z_iload 0 dX8_tidy_157 rfl (z_aload_n 2 dX8_tidy_159 rfl (z_iload 1 dX8_tidy_160 rfl ?_)))
        refine z_bind (fun v23 hb24 => ?_)
        refine z_callV (kc' := 0) (ks' := 0) (v := (some (.int v23))) (S1 := S) (w1 := w) (st := [.int v20, .ref x0]) [.int z13] (m_X8_pickup hW w x0 hx0 z13 v23 hb24) zc8 hx0 zy_X8_pickup gw1251 gp32 gw1249 (Nat.le_of_ble_eq_true rfl) (Nat.le_of_ble_eq_true rfl) (Nat.le_of_ble_eq_true rfl) (Nat.le_of_ble_eq_true rfl) (zal hW) rfl dX8_tidy_162 (z_at 165 _ [.int v23, .int v20, .ref x0] rfl rfl rfl ?_)
        refine z_bind (fun v25 hb26 => ?_)
        refine z_callV (kc' := 0) (ks' := 0) (v := (some (.int v25))) (S1 := S) (w1 := w) (st := []) [.int v20, .int v23] (m_X8_isBad hW w x0 hx0 v20 v23 v25 hb26) zc8 hx0 zy_X8_isBad gw1247 gp31 gw1245 (Nat.le_of_ble_eq_true rfl) (Nat.le_of_ble_eq_true rfl) (Nat.le_of_ble_eq_true rfl) (Nat.le_of_ble_eq_true rfl) (zal hW) rfl dX8_tidy_165 (z_at 168 _ [.int v25] rfl rfl rfl ?_)
        refine z_if_eq 174 dX8_tidy_168 rfl (fun q27 => ?_) (fun q27 => ?_)
        · refine z_aload_n 2 dX8_tidy_174 rfl (z_iload 1 dX8_tidy_175 rfl (z_iload 0 dX8_tidy_177 rfl ?_))
          refine z_bind (fun r28 hb29 => ?_)
          refine z_callV (kc' := 0) (ks' := 0) (v := none) (S1 := S) (w1 := r28.2) (st := []) [.int z13, .int v20] (m_X8_moves hW w x0 hx0 z13 v20 r28 hb29) zc8 hx0 zy_X8_moves gw1317 gp46 gw1315 (Nat.le_of_ble_eq_true rfl) (Nat.le_of_ble_eq_true rfl) (Nat.le_of_ble_eq_true rfl) (Nat.le_of_ble_eq_true rfl) (zal hW) rfl dX8_tidy_179 (z_at 182 _ [] rfl rfl rfl ?_)
          refine z_iinc (v := (x2 + (1 : Int32))) (lv' := [(2, .int (x2 + (1 : Int32))), (5, .int v20), (4, .int z13), (0, .ref x0), (1, .int x1), (3, .int x3)]) 4 dX8_tidy_182 rfl (zi_inc _ zi_1) (Nat.le_of_ble_eq_true rfl) rfl (z_iinc (v := (x3 + (1 : Int32))) (lv' := [(3, .int (x3 + (1 : Int32))), (2, .int (x2 + (1 : Int32))), (5, .int v20), (4, .int z13), (0, .ref x0), (1, .int x1)]) 5 dX8_tidy_185 rfl (zi_inc _ zi_1) (Nat.le_of_ble_eq_true rfl) rfl (z_goto 87 dX8_tidy_188 rfl ?_))
          refine z_sub (lv' := [(0, .ref x0), (1, .int x1), (2, .int (x2 + (1 : Int32))), (3, .int (x3 + (1 : Int32)))]) [4, 5, 1, 0] rfl ?_
          refine z_pc (pc' := 87) rfl ?_
          exact hk ((x2 + (1 : Int32)), (x3 + (1 : Int32)), r28.2)
        · refine z_goto 185 dX8_tidy_171 rfl (z_iinc (v := (x3 + (1 : Int32))) (lv' := [(3, .int (x3 + (1 : Int32))), (5, .int v20), (4, .int z13), (0, .ref x0), (1, .int x1), (2, .int x2)]) 5 dX8_tidy_185 rfl (zi_inc _ zi_1) (Nat.le_of_ble_eq_true rfl) rfl (z_goto 87 dX8_tidy_188 rfl ?_))
          refine z_sub (lv' := [(0, .ref x0), (1, .int x1), (2, .int x2), (3, .int (x3 + (1 : Int32)))]) [3, 4, 5, 0] rfl ?_
          refine z_pc (pc' := 87) rfl ?_
          exact hk (x2, (x3 + (1 : Int32)), w)
    · refine z_goto 185 dX8_tidy_105 rfl (z_iinc (v := (x3 + (1 : Int32))) (lv' := [(3, .int (x3 + (1 : Int32))), (0, .ref x0), (1, .int x1), (2, .int x2)]) 3 dX8_tidy_185 rfl (zi_inc _ zi_1) (Nat.le_of_ble_eq_true rfl) rfl (z_goto 87 dX8_tidy_188 rfl ?_))
      refine z_sub (lv' := [(0, .ref x0), (1, .int x1), (2, .int x2), (3, .int (x3 + (1 : Int32)))]) [1, 2, 3, 0] rfl ?_
      refine z_pc (pc' := 87) rfl ?_
      exact hk (x2, (x3 + (1 : Int32)), w)

def f_X8_tidy_j67 (S : Zs) (w : Zw) (x0 : Nat) (x1 : Int32) (x2 : Int32) (x3 : Int32) (k8 : (Int32 × Int32 × Zw) → Option (Int32 × Zw)) : Option (Int32 × Zw) :=
  if zin x3 (zlen S (zr S x0 21)) = true then zlet (zput w (zr S x0 21) (zix x3) x2) fun w35 => k8 ((x1 + (1 : Int32)), (x2 + (2 : Int32)), w35) else none
theorem m_X8_tidy_j67 {E : ZE} {S : Zs} (hW : zWF S) (w : Zw) (x0 : Nat) (hx0 : zObj S x0 8) (x1 : Int32) (x2 : Int32) (x3 : Int32) (k8 : (Int32 × Int32 × Zw) → Option (Int32 × Zw)) (hk8 : ∀ a : Int32 × Int32 × Zw, zOk (E, i_X8_tidy, 9) 0 0 S a.2.2 8 [(0, .ref x0), (1, .int a.1), (2, .int a.2.1)] [] (emW eI S) (k8 a)) : zOk (E, i_X8_tidy, 9) 0 0 S w 67 [(0, .ref x0), (1, .int x1), (2, .int x2), (3, .int x3)] [] (emW eI S) (f_X8_tidy_j67 S w x0 x1 x2 x3 k8) := by
  unfold f_X8_tidy_j67
  refine z_aload_n 0 dX8_tidy_67 rfl (z_getR zc8 21 (by decide) rfl gw1128 hx0 (zW_some hW hx0 21 rfl) dX8_tidy_68 (z_iload_n 3 dX8_tidy_71 rfl (z_iload_n 2 dX8_tidy_72 rfl ?_)))
  refine z_chk (fun c34 => ?_)
  refine z_iast (zW_arr hW hx0 21 0 rfl) c34 dX8_tidy_73 (z_letw (fun w35 => ?_))
  refine z_iinc (v := (x1 + (1 : Int32))) (lv' := [(1, .int (x1 + (1 : Int32))), (0, .ref x0), (2, .int x2), (3, .int x3)]) 1 dX8_tidy_74 rfl (zi_inc _ zi_1) (Nat.le_of_ble_eq_true rfl) rfl (z_iinc (v := (x2 + (2 : Int32))) (lv' := [(2, .int (x2 + (2 : Int32))), (1, .int (x1 + (1 : Int32))), (0, .ref x0), (3, .int x3)]) 2 dX8_tidy_77 rfl (zi_inc _ zi_2) (Nat.le_of_ble_eq_true rfl) rfl (z_goto 8 dX8_tidy_80 rfl ?_))
  refine z_sub (lv' := [(0, .ref x0), (1, .int (x1 + (1 : Int32))), (2, .int (x2 + (2 : Int32)))]) [2, 1, 0] rfl ?_
  refine z_pc (pc' := 8) rfl ?_
  exact hk8 ((x1 + (1 : Int32)), (x2 + (2 : Int32)), w35)

def f_X8_tidy_b27 (S : Zs) (x0 : Nat) (x1 : Int32) (x2 : Int32) (k8 : (Int32 × Int32 × Zw) → Option (Int32 × Zw)) (k : (Int32 × Zw) → Option (Int32 × Zw)) (x3 : Int32) (w : Zw) : Option (Int32 × Zw) :=
  if x3 ≤ 0 then f_X8_tidy_j67 S w x0 x1 x2 x3 k8  else if zin (x3 - (1 : Int32)) (zlen S (zr S x0 21)) = true then (f_X8_isAhead S w x0 x2 (w (zr S x0 21) (zix (x3 - (1 : Int32))))).bind fun v37 => if v37 = 0 then f_X8_tidy_j67 S w x0 x1 x2 x3 k8  else if zin (x3 - (1 : Int32)) (zlen S (zr S x0 21)) = true then if zin x3 (zlen S (zr S x0 21)) = true then zlet (zput w (zr S x0 21) (zix x3) (w (zr S x0 21) (zix (x3 - (1 : Int32))))) fun w42 => k ((x3 + (-1 : Int32)), w42) else none else none else none
def f_X8_tidy_l27 (S : Zs) (x0 : Nat) (x1 : Int32) (x2 : Int32) (k8 : (Int32 × Int32 × Zw) → Option (Int32 × Zw)) (a : Int32 × Zw) : Option (Int32 × Zw) :=
  zlp (fun k a => f_X8_tidy_b27 S x0 x1 x2 k8 k a.1 a.2) zFU a
theorem m_X8_tidy_l27 {E : ZE} {S : Zs} (hW : zWF S) (x0 : Nat) (hx0 : zObj S x0 8) (x1 : Int32) (x2 : Int32) (k8 : (Int32 × Int32 × Zw) → Option (Int32 × Zw)) (hk8 : ∀ a : Int32 × Int32 × Zw, zOk (E, i_X8_tidy, 9) 0 0 S a.2.2 8 [(0, .ref x0), (1, .int a.1), (2, .int a.2.1)] [] (emW eI S) (k8 a)) : ∀ a : Int32 × Zw, zOk (E, i_X8_tidy, 9) 0 0 S a.2 27 [(0, .ref x0), (1, .int x1), (2, .int x2), (3, .int a.1)] [] (emW eI S) (f_X8_tidy_l27 S x0 x1 x2 k8 a) := by
  intro a
  refine z_lp (P := fun _ => True) (W9 := fun a : Int32 × Zw => a.2) (L9 := fun a : Int32 × Zw => [(0, .ref x0), (1, .int x1), (2, .int x2), (3, .int a.1)]) (T9 := fun _ => []) (fun k hk9 a _ => ?_) zFU a trivial
  have hk : ∀ a : Int32 × Zw, zOk (E, i_X8_tidy, 9) 0 0 S a.2 27 [(0, .ref x0), (1, .int x1), (2, .int x2), (3, .int a.1)] [] (emW eI S) (k a) := fun a => hk9 a trivial
  clear hk9
  obtain ⟨x3, w⟩ := a
  show zOk (E, i_X8_tidy, 9) 0 0 S w 27 [(0, .ref x0), (1, .int x1), (2, .int x2), (3, .int x3)] [] (emW eI S) (f_X8_tidy_b27 S x0 x1 x2 k8 k x3 w)
  unfold f_X8_tidy_b27
  refine z_iload_n 3 dX8_tidy_27 rfl ?_
  refine z_if_le 67 dX8_tidy_28 rfl (fun q33 => ?_) (fun q33 => ?_)
  · refine z_pc (pc' := 67) rfl ?_
    exact m_X8_tidy_j67 hW w x0 hx0 x1 x2 x3 k8 hk8 
  · refine z_aload_n 0 dX8_tidy_31 rfl (z_iload_n 2 dX8_tidy_32 rfl (z_aload_n 0 dX8_tidy_33 rfl (z_getR zc8 21 (by decide) rfl gw1128 hx0 (zW_some hW hx0 21 rfl) dX8_tidy_34 (z_iload_n 3 dX8_tidy_37 rfl (z_iconst dX8_tidy_38 zi_1 ?_)))))
    refine z_isub dX8_tidy_39 ?_
    refine z_chk (fun c36 => ?_)
    refine z_iald (zW_arr hW hx0 21 0 rfl) c36 dX8_tidy_40 ?_
    refine z_bind (fun v37 hb38 => ?_)
    refine z_callV (kc' := 0) (ks' := 0) (v := (some (.int v37))) (S1 := S) (w1 := w) (st := []) [.int x2, .int (w (zr S x0 21) (zix (x3 - (1 : Int32))))] (m_X8_isAhead hW w x0 hx0 x2 (w (zr S x0 21) (zix (x3 - (1 : Int32)))) v37 hb38) zc8 hx0 zy_X8_isAhead gw1428 gp58 gw1426 (Nat.le_of_ble_eq_true rfl) (Nat.le_of_ble_eq_true rfl) (Nat.le_of_ble_eq_true rfl) (Nat.le_of_ble_eq_true rfl) (zal hW) rfl dX8_tidy_41 (z_at 44 _ [.int v37] rfl rfl rfl ?_)
    refine z_if_eq 67 dX8_tidy_44 rfl (fun q39 => ?_) (fun q39 => ?_)
    · refine z_pc (pc' := 67) rfl ?_
      exact m_X8_tidy_j67 hW w x0 hx0 x1 x2 x3 k8 hk8 
    · refine z_aload_n 0 dX8_tidy_47 rfl (z_getR zc8 21 (by decide) rfl gw1128 hx0 (zW_some hW hx0 21 rfl) dX8_tidy_48 (z_iload_n 3 dX8_tidy_51 rfl (z_aload_n 0 dX8_tidy_52 rfl (z_getR zc8 21 (by decide) rfl gw1128 hx0 (zW_some hW hx0 21 rfl) dX8_tidy_53 (z_iload_n 3 dX8_tidy_56 rfl ?_)))))
      refine z_iconst dX8_tidy_57 zi_1 (z_isub dX8_tidy_58 ?_)
      refine z_chk (fun c40 => ?_)
      refine z_iald (zW_arr hW hx0 21 0 rfl) c40 dX8_tidy_59 ?_
      refine z_chk (fun c41 => ?_)
      refine z_iast (zW_arr hW hx0 21 0 rfl) c41 dX8_tidy_60 (z_letw (fun w42 => ?_))
      refine z_iinc (v := (x3 + (-1 : Int32))) (lv' := [(3, .int (x3 + (-1 : Int32))), (0, .ref x0), (1, .int x1), (2, .int x2)]) 3 dX8_tidy_61 rfl (zi_inc _ zi_m1) (Nat.le_of_ble_eq_true rfl) rfl (z_goto 27 dX8_tidy_64 rfl ?_)
      refine z_sub (lv' := [(0, .ref x0), (1, .int x1), (2, .int x2), (3, .int (x3 + (-1 : Int32)))]) [1, 2, 3, 0] rfl ?_
      refine z_pc (pc' := 27) rfl ?_
      exact hk ((x3 + (-1 : Int32)), w42)

def f_X8_tidy_b8 (S : Zs) (x0 : Nat) (k : (Int32 × Int32 × Zw) → Option (Int32 × Zw)) (x1 : Int32) (x2 : Int32) (w : Zw) : Option (Int32 × Zw) :=
  if (60 : Int32) ≤ x2 then f_X8_tidy_l87 S x0 x1 ((0 : Int32), (0 : Int32), w) else (f_X8_isWrong S w x0 x2).bind fun v30 => if v30 = 0 then k (x1, (x2 + (2 : Int32)), w) else f_X8_tidy_l27 S x0 x1 x2 k (x1, w)
def f_X8_tidy_l8 (S : Zs) (x0 : Nat) (a : Int32 × Int32 × Zw) : Option (Int32 × Zw) :=
  zlp (fun k a => f_X8_tidy_b8 S x0 k a.1 a.2.1 a.2.2) zFU a
theorem m_X8_tidy_l8 {E : ZE} {S : Zs} (hW : zWF S) (x0 : Nat) (hx0 : zObj S x0 8) : ∀ a : Int32 × Int32 × Zw, zOk (E, i_X8_tidy, 9) 0 0 S a.2.2 8 [(0, .ref x0), (1, .int a.1), (2, .int a.2.1)] [] (emW eI S) (f_X8_tidy_l8 S x0 a) := by
  intro a
  refine z_lp (P := fun _ => True) (W9 := fun a : Int32 × Int32 × Zw => a.2.2) (L9 := fun a : Int32 × Int32 × Zw => [(0, .ref x0), (1, .int a.1), (2, .int a.2.1)]) (T9 := fun _ => []) (fun k hk9 a _ => ?_) zFU a trivial
  have hk : ∀ a : Int32 × Int32 × Zw, zOk (E, i_X8_tidy, 9) 0 0 S a.2.2 8 [(0, .ref x0), (1, .int a.1), (2, .int a.2.1)] [] (emW eI S) (k a) := fun a => hk9 a trivial
  clear hk9
  obtain ⟨x1, x2, w⟩ := a
  show zOk (E, i_X8_tidy, 9) 0 0 S w 8 [(0, .ref x0), (1, .int x1), (2, .int x2)] [] (emW eI S) (f_X8_tidy_b8 S x0 k x1 x2 w)
  unfold f_X8_tidy_b8
  refine z_iload_n 2 dX8_tidy_8 rfl (z_bipush dX8_tidy_9 zb_60 ?_)
  refine z_icmp_ge 83 dX8_tidy_11 rfl (fun q3 => ?_) (fun q3 => ?_)
  · refine z_iconst dX8_tidy_83 zi_0 (z_istore_n (lv' := [(2, .int (0 : Int32)), (0, .ref x0), (1, .int x1)]) dX8_tidy_84 (Nat.le_of_ble_eq_true rfl) rfl (z_iconst dX8_tidy_85 zi_0 (z_istore_n (lv' := [(3, .int (0 : Int32)), (2, .int (0 : Int32)), (0, .ref x0), (1, .int x1)]) dX8_tidy_86 (Nat.le_of_ble_eq_true rfl) rfl ?_)))
    refine z_sub (lv' := [(0, .ref x0), (1, .int x1), (2, .int (0 : Int32)), (3, .int (0 : Int32))]) [2, 3, 1, 0] rfl ?_
    refine z_pc (pc' := 87) rfl ?_
    exact m_X8_tidy_l87 hW x0 hx0 x1 ((0 : Int32), (0 : Int32), w)
  · refine z_aload_n 0 dX8_tidy_14 rfl (z_iload_n 2 dX8_tidy_15 rfl ?_)
    refine z_bind (fun v30 hb31 => ?_)
    refine z_callV (kc' := 0) (ks' := 0) (v := (some (.int v30))) (S1 := S) (w1 := w) (st := []) [.int x2] (m_X8_isWrong hW w x0 hx0 x2 v30 hb31) zc8 hx0 zy_X8_isWrong gw1424 gp57 gw1422 (Nat.le_of_ble_eq_true rfl) (Nat.le_of_ble_eq_true rfl) (Nat.le_of_ble_eq_true rfl) (Nat.le_of_ble_eq_true rfl) (zal hW) rfl dX8_tidy_16 (z_at 19 _ [.int v30] rfl rfl rfl ?_)
    refine z_if_ne 25 dX8_tidy_19 rfl (fun q32 => ?_) (fun q32 => ?_)
    · refine z_iload_n 1 dX8_tidy_25 rfl (z_istore_n (lv' := [(3, .int x1), (0, .ref x0), (1, .int x1), (2, .int x2)]) dX8_tidy_26 (Nat.le_of_ble_eq_true rfl) rfl ?_)
      refine z_sub (lv' := [(0, .ref x0), (1, .int x1), (2, .int x2), (3, .int x1)]) [1, 2, 3, 0] rfl ?_
      refine z_pc (pc' := 27) rfl ?_
      exact m_X8_tidy_l27 hW x0 hx0 x1 x2 k hk (x1, w)
    · refine z_goto 77 dX8_tidy_22 rfl (z_iinc (v := (x2 + (2 : Int32))) (lv' := [(2, .int (x2 + (2 : Int32))), (0, .ref x0), (1, .int x1)]) 2 dX8_tidy_77 rfl (zi_inc _ zi_2) (Nat.le_of_ble_eq_true rfl) rfl (z_goto 8 dX8_tidy_80 rfl ?_))
      refine z_sub (lv' := [(0, .ref x0), (1, .int x1), (2, .int (x2 + (2 : Int32)))]) [1, 2, 0] rfl ?_
      refine z_pc (pc' := 8) rfl ?_
      exact hk (x1, (x2 + (2 : Int32)), w)

def f_X8_tidy (S : Zs) (w : Zw) (a0 : Nat) : Option (Int32 × Zw) :=
  (f_X8_begins S w a0).bind fun r1 => f_X8_tidy_l8 S a0 ((0 : Int32), (1 : Int32), r1.2)
theorem mw_X8_tidy {E : ZE} {S : Zs} (hW : zWF S) (w : Zw) (a0 : Nat) (h0 : zObj S a0 8) : zOk (E, i_X8_tidy, 9) 0 0 S w 0 [(0, .ref a0)] [] (emW eI S) (f_X8_tidy S w a0) := by
  unfold f_X8_tidy
  refine z_aload_n 0 dX8_tidy_0 rfl ?_
  refine z_bind (fun r1 hb2 => ?_)
  refine z_callV (kc' := 0) (ks' := 0) (v := none) (S1 := S) (w1 := r1.2) (st := []) [] (m_X8_begins hW w a0 h0 r1 hb2) zc8 h0 zy_X8_begins gw1195 gp25 gw1193 (Nat.le_of_ble_eq_true rfl) (Nat.le_of_ble_eq_true rfl) (Nat.le_of_ble_eq_true rfl) (Nat.le_of_ble_eq_true rfl) (zal hW) rfl dX8_tidy_1 (z_at 4 _ [] rfl rfl rfl ?_)
  refine z_iconst dX8_tidy_4 zi_0 (z_istore_n (lv' := [(1, .int (0 : Int32)), (0, .ref a0)]) dX8_tidy_5 (Nat.le_of_ble_eq_true rfl) rfl (z_iconst dX8_tidy_6 zi_1 (z_istore_n (lv' := [(2, .int (1 : Int32)), (1, .int (0 : Int32)), (0, .ref a0)]) dX8_tidy_7 (Nat.le_of_ble_eq_true rfl) rfl ?_)))
  refine z_sub (lv' := [(0, .ref a0), (1, .int (0 : Int32)), (2, .int (1 : Int32))]) [2, 1, 0] rfl ?_
  refine z_pc (pc' := 8) rfl ?_
  exact m_X8_tidy_l8 hW a0 h0 ((0 : Int32), (1 : Int32), r1.2)

theorem m_X8_tidy {E : ZE} {S : Zs} (hW : zWF S) (w : Zw) (a0 : Nat) (h0 : zObj S a0 8) : ∀ i, f_X8_tidy S w a0 = some i → zMr E yX8_tidy cX8_tidy 6 ((some .int)) 9 0 0 [.ref a0] S w ((emW eI S) i) :=
  fun i hi => z_enter (by decide +kernel) (Nat.le_of_ble_eq_true rfl) (mw_X8_tidy hW w a0 h0 i hi)
end ZFN
