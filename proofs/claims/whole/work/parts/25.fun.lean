section ZFN
/-! ParkingRobotModel.moves (II)V : W, depth 8 -/
abbrev i_X8_moves : Zm := (yX8_moves.cls, cX8_moves, 9, none, [], yX8_moves.name)
def f_X8_moves_j196 (S : Zs) (w : Zw) (x0 : Nat) (x1 : Int32) (x2 : Int32) (x3 : Int32) : Option (Unit × Zw) :=
  (f_X8_notes S w x0 x1 x3 x2).bind fun r29 => if zin (3 : Int32) (zlen S (zr S x0 1)) = true then if zin (3 : Int32) (zlen S (zr S x0 1)) = true then zlet (zput r29.2 (zr S x0 1) (zix (3 : Int32)) ((r29.2 (zr S x0 1) (zix (3 : Int32))) + (1 : Int32))) fun w33 => some ((), w33) else none else none
theorem m_X8_moves_j196 {E : ZE} {S : Zs} (hW : zWF S) (w : Zw) (x0 : Nat) (hx0 : zObj S x0 8) (x1 : Int32) (x2 : Int32) (x3 : Int32) : zOk (E, i_X8_moves, 8) 0 0 S w 196 [(0, .ref x0), (1, .int x1), (2, .int x2), (3, .int x3)] [] (emW eU S) (f_X8_moves_j196 S w x0 x1 x2 x3) := by
  unfold f_X8_moves_j196
  refine z_aload_n 0 dX8_moves_196 rfl (z_iload_n 1 dX8_moves_197 rfl (z_iload_n 3 dX8_moves_198 rfl (z_iload_n 2 dX8_moves_199 rfl ?_)))
  refine z_bind (fun r29 hb30 => ?_)
  refine z_callV (kc' := 0) (ks' := 0) (v := none) (S1 := S) (w1 := r29.2) (st := []) [.int x1, .int x3, .int x2] (m_X8_notes hW w x0 hx0 x1 x3 x2 r29 hb30) zc8 hx0 zy_X8_notes gw1285 gp39 gw1283 (Nat.le_of_ble_eq_true rfl) (Nat.le_of_ble_eq_true rfl) (Nat.le_of_ble_eq_true rfl) (Nat.le_of_ble_eq_true rfl) (zal hW) rfl dX8_moves_200 (z_at 203 _ [] rfl rfl rfl ?_)
  refine z_aload_n 0 dX8_moves_203 rfl (z_getR zc8 1 (by decide) rfl gw1108 hx0 (zW_some hW hx0 1 rfl) dX8_moves_204 (z_iconst dX8_moves_207 zi_3 (z_dup2_11 dX8_moves_208 rfl rfl ?_)))
  refine z_chk (fun c31 => ?_)
  refine z_iald (zW_arr hW hx0 1 0 rfl) c31 dX8_moves_209 (z_iconst dX8_moves_210 zi_1 (z_iadd dX8_moves_211 ?_))
  refine z_chk (fun c32 => ?_)
  refine z_iast (zW_arr hW hx0 1 0 rfl) c32 dX8_moves_212 (z_letw (fun w33 => ?_))
  exact z_vret zemW rfl dX8_moves_213

def f_X8_moves (S : Zs) (w : Zw) (a0 : Nat) (a1 : Int32) (a2 : Int32) : Option (Unit × Zw) :=
  (f_X8_jobBegins S w a0).bind fun r1 => (f_X8_bayOf S r1.2 a0 a1).bind fun v3 => zlet (f_X8_level v3) fun z5 => zlet (f_X8_level a2) fun z6 => (f_X8_ready S r1.2 a0 z5).bind fun v7 => (f_X8_at S r1.2 a0 z5).bind fun v9 => zlet ((v7 + (zabs (v9 - (f_X8_column v3)))) + (f_X8_handling v3)) fun z11 => if z5 = z6 then (f_X8_does S r1.2 a0 z5 ((z11 + (zabs ((f_X8_column v3) - (f_X8_column a2)))) + (f_X8_handling a2)) (f_X8_column a2)).bind fun r34 => f_X8_moves_j196 S r34.2 a0 a1 a2 v3  else (f_X8_ready S r1.2 a0 (3 : Int32)).bind fun v13 => (f_X8_at S r1.2 a0 (3 : Int32)).bind fun v15 => zlet ((zmax (z11 + (f_X8_column v3)) (v13 + ((3 : Int32) * (zabs (v15 - z5))))) + (2 : Int32)) fun z17 => (f_X8_ready S r1.2 a0 z6).bind fun v18 => (f_X8_at S r1.2 a0 z6).bind fun v20 => zlet ((zmax (z17 + ((3 : Int32) * (zabs (z5 - z6)))) (v18 + v20)) + (2 : Int32)) fun z22 => (f_X8_does S r1.2 a0 z5 z17 (0 : Int32)).bind fun r23 => (f_X8_does S r23.2 a0 (3 : Int32) z22 z6).bind fun r25 => (f_X8_does S r25.2 a0 z6 ((z22 + (f_X8_column a2)) + (f_X8_handling a2)) (f_X8_column a2)).bind fun r27 => f_X8_moves_j196 S r27.2 a0 a1 a2 v3 
theorem mw_X8_moves {E : ZE} {S : Zs} (hW : zWF S) (w : Zw) (a0 : Nat) (h0 : zObj S a0 8) (a1 : Int32) (a2 : Int32) : zOk (E, i_X8_moves, 8) 0 0 S w 0 [(0, .ref a0), (1, .int a1), (2, .int a2)] [] (emW eU S) (f_X8_moves S w a0 a1 a2) := by
  unfold f_X8_moves
  refine z_aload_n 0 dX8_moves_0 rfl ?_
  refine z_bind (fun r1 hb2 => ?_)
  refine z_callV (kc' := 0) (ks' := 0) (v := none) (S1 := S) (w1 := r1.2) (st := []) [] (m_X8_jobBegins hW w a0 h0 r1 hb2) zc8 h0 zy_X8_jobBegins gw1263 gp35 gw1261 (Nat.le_of_ble_eq_true rfl) (Nat.le_of_ble_eq_true rfl) (Nat.le_of_ble_eq_true rfl) (Nat.le_of_ble_eq_true rfl) (zal hW) rfl dX8_moves_1 (z_at 4 _ [] rfl rfl rfl ?_)
  refine z_aload_n 0 dX8_moves_4 rfl (z_iload_n 1 dX8_moves_5 rfl ?_)
  refine z_bind (fun v3 hb4 => ?_)
  refine z_callV (kc' := 0) (ks' := 0) (v := (some (.int v3))) (S1 := S) (w1 := r1.2) (st := []) [.int a1] (m_X8_bayOf hW r1.2 a0 h0 a1 v3 hb4) zc8 h0 zy_X8_bayOf gw1305 gp43 gw1303 (Nat.le_of_ble_eq_true rfl) (Nat.le_of_ble_eq_true rfl) (Nat.le_of_ble_eq_true rfl) (Nat.le_of_ble_eq_true rfl) (zal hW) rfl dX8_moves_6 (z_at 9 _ [.int v3] rfl rfl rfl ?_)
  refine z_istore_n (lv' := [(3, .int v3), (0, .ref a0), (1, .int a1), (2, .int a2)]) dX8_moves_9 (Nat.le_of_ble_eq_true rfl) rfl (z_iload_n 0 dX8_moves_10 rfl ?_)
  refine z_callS (kc' := 0) (ks' := 0) (v := (some (.int (f_X8_level v3)))) (S1 := S) (w1 := r1.2) (st := []) [.int v3] (m_X8_level hW r1.2 v3) zy_X8_level gw1242 gw1241 (Nat.le_of_ble_eq_true rfl) (Nat.le_of_ble_eq_true rfl) (Nat.le_of_ble_eq_true rfl) (Nat.le_of_ble_eq_true rfl) (zal hW) rfl dX8_moves_11 (z_at 14 _ [.int (f_X8_level v3)] rfl rfl rfl ?_)
  refine z_let (a := (f_X8_level v3)) (fun z5 => [(3, .int v3), (0, .ref a0), (1, .int a1), (2, .int a2)]) (fun z5 => .int z5 :: []) (fun z5 => ?_)
  refine z_istore (lv' := [(4, .int z5), (3, .int v3), (0, .ref a0), (1, .int a1), (2, .int a2)]) dX8_moves_14 (Nat.le_of_ble_eq_true rfl) rfl (z_iload_n 4 dX8_moves_16 rfl ?_)
  refine z_callS (kc' := 0) (ks' := 0) (v := (some (.int (f_X8_level a2)))) (S1 := S) (w1 := r1.2) (st := []) [.int a2] (m_X8_level hW r1.2 a2) zy_X8_level gw1242 gw1241 (Nat.le_of_ble_eq_true rfl) (Nat.le_of_ble_eq_true rfl) (Nat.le_of_ble_eq_true rfl) (Nat.le_of_ble_eq_true rfl) (zal hW) rfl dX8_moves_17 (z_at 20 _ [.int (f_X8_level a2)] rfl rfl rfl ?_)
  refine z_let (a := (f_X8_level a2)) (fun z6 => [(4, .int z5), (3, .int v3), (0, .ref a0), (1, .int a1), (2, .int a2)]) (fun z6 => .int z6 :: []) (fun z6 => ?_)
  refine z_istore (lv' := [(5, .int z6), (4, .int z5), (3, .int v3), (0, .ref a0), (1, .int a1), (2, .int a2)]) dX8_moves_20 (Nat.le_of_ble_eq_true rfl) rfl (z_aload_n 3 dX8_moves_22 rfl (z_iload 1 dX8_moves_23 rfl ?_))
  refine z_bind (fun v7 hb8 => ?_)
  refine z_callV (kc' := 0) (ks' := 0) (v := (some (.int v7))) (S1 := S) (w1 := r1.2) (st := []) [.int z5] (m_X8_ready hW r1.2 a0 h0 z5 v7 hb8) zc8 h0 zy_X8_ready gw1268 gp36 gw1266 (Nat.le_of_ble_eq_true rfl) (Nat.le_of_ble_eq_true rfl) (Nat.le_of_ble_eq_true rfl) (Nat.le_of_ble_eq_true rfl) (zal hW) rfl dX8_moves_25 (z_at 28 _ [.int v7] rfl rfl rfl ?_)
  refine z_aload_n 3 dX8_moves_28 rfl (z_iload 1 dX8_moves_29 rfl ?_)
  refine z_bind (fun v9 hb10 => ?_)
  refine z_callV (kc' := 0) (ks' := 0) (v := (some (.int v9))) (S1 := S) (w1 := r1.2) (st := [.int v7]) [.int z5] (m_X8_at hW r1.2 a0 h0 z5 v9 hb10) zc8 h0 zy_X8_at gw1273 gp37 gw1271 (Nat.le_of_ble_eq_true rfl) (Nat.le_of_ble_eq_true rfl) (Nat.le_of_ble_eq_true rfl) (Nat.le_of_ble_eq_true rfl) (zal hW) rfl dX8_moves_31 (z_at 34 _ [.int v9, .int v7] rfl rfl rfl ?_)
  refine z_iload_n 2 dX8_moves_34 rfl ?_
  refine z_callS (kc' := 0) (ks' := 0) (v := (some (.int (f_X8_column v3)))) (S1 := S) (w1 := r1.2) (st := [.int v9, .int v7]) [.int v3] (m_X8_column hW r1.2 v3) zy_X8_column gw1229 gw1228 (Nat.le_of_ble_eq_true rfl) (Nat.le_of_ble_eq_true rfl) (Nat.le_of_ble_eq_true rfl) (Nat.le_of_ble_eq_true rfl) (zal hW) rfl dX8_moves_35 (z_at 38 _ [.int (f_X8_column v3), .int v9, .int v7] rfl rfl rfl ?_)
  refine z_isub dX8_moves_38 (z_abs gw1244 (Nat.le_of_ble_eq_true rfl) (Nat.le_of_ble_eq_true rfl) dX8_moves_39 (z_iadd dX8_moves_42 (z_iload_n 2 dX8_moves_43 rfl ?_)))
  refine z_callS (kc' := 0) (ks' := 0) (v := (some (.int (f_X8_handling v3)))) (S1 := S) (w1 := r1.2) (st := [.int (v7 + (zabs (v9 - (f_X8_column v3))))]) [.int v3] (m_X8_handling hW r1.2 v3) zy_X8_handling gw1281 gw1280 (Nat.le_of_ble_eq_true rfl) (Nat.le_of_ble_eq_true rfl) (Nat.le_of_ble_eq_true rfl) (Nat.le_of_ble_eq_true rfl) (zal hW) rfl dX8_moves_44 (z_at 47 _ [.int (f_X8_handling v3), .int (v7 + (zabs (v9 - (f_X8_column v3))))] rfl rfl rfl ?_)
  refine z_iadd dX8_moves_47 ?_
  refine z_let (a := ((v7 + (zabs (v9 - (f_X8_column v3)))) + (f_X8_handling v3))) (fun z11 => [(5, .int z6), (4, .int z5), (3, .int v3), (0, .ref a0), (1, .int a1), (2, .int a2)]) (fun z11 => .int z11 :: []) (fun z11 => ?_)
  refine z_istore (lv' := [(6, .int z11), (5, .int z6), (4, .int z5), (3, .int v3), (0, .ref a0), (1, .int a1), (2, .int a2)]) dX8_moves_48 (Nat.le_of_ble_eq_true rfl) rfl (z_iload 2 dX8_moves_50 rfl (z_iload 1 dX8_moves_52 rfl ?_))
  refine z_icmp_ne 90 dX8_moves_54 rfl (fun q12 => ?_) (fun q12 => ?_)
  · refine z_iload 0 dX8_moves_90 rfl (z_iload_n 3 dX8_moves_92 rfl ?_)
    refine z_callS (kc' := 0) (ks' := 0) (v := (some (.int (f_X8_column v3)))) (S1 := S) (w1 := r1.2) (st := [.int z11]) [.int v3] (m_X8_column hW r1.2 v3) zy_X8_column gw1229 gw1228 (Nat.le_of_ble_eq_true rfl) (Nat.le_of_ble_eq_true rfl) (Nat.le_of_ble_eq_true rfl) (Nat.le_of_ble_eq_true rfl) (zal hW) rfl dX8_moves_93 (z_at 96 _ [.int (f_X8_column v3), .int z11] rfl rfl rfl ?_)
    refine z_iadd dX8_moves_96 (z_aload_n 4 dX8_moves_97 rfl (z_iconst dX8_moves_98 zi_3 ?_))
    refine z_bind (fun v13 hb14 => ?_)
    refine z_callV (kc' := 0) (ks' := 0) (v := (some (.int v13))) (S1 := S) (w1 := r1.2) (st := [.int (z11 + (f_X8_column v3))]) [.int (3 : Int32)] (m_X8_ready hW r1.2 a0 h0 (3 : Int32) v13 hb14) zc8 h0 zy_X8_ready gw1268 gp36 gw1266 (Nat.le_of_ble_eq_true rfl) (Nat.le_of_ble_eq_true rfl) (Nat.le_of_ble_eq_true rfl) (Nat.le_of_ble_eq_true rfl) (zal hW) rfl dX8_moves_99 (z_at 102 _ [.int v13, .int (z11 + (f_X8_column v3))] rfl rfl rfl ?_)
    refine z_iconst dX8_moves_102 zi_3 (z_aload_n 4 dX8_moves_103 rfl (z_iconst dX8_moves_104 zi_3 ?_))
    refine z_bind (fun v15 hb16 => ?_)
    refine z_callV (kc' := 0) (ks' := 0) (v := (some (.int v15))) (S1 := S) (w1 := r1.2) (st := [.int (3 : Int32), .int v13, .int (z11 + (f_X8_column v3))]) [.int (3 : Int32)] (m_X8_at hW r1.2 a0 h0 (3 : Int32) v15 hb16) zc8 h0 zy_X8_at gw1273 gp37 gw1271 (Nat.le_of_ble_eq_true rfl) (Nat.le_of_ble_eq_true rfl) (Nat.le_of_ble_eq_true rfl) (Nat.le_of_ble_eq_true rfl) (zal hW) rfl dX8_moves_105 (z_at 108 _ [.int v15, .int (3 : Int32), .int v13, .int (z11 + (f_X8_column v3))] rfl rfl rfl ?_)
    refine z_iload 2 dX8_moves_108 rfl (z_isub dX8_moves_110 (z_abs gw1244 (Nat.le_of_ble_eq_true rfl) (Nat.le_of_ble_eq_true rfl) dX8_moves_111 (z_imul dX8_moves_114 (z_iadd dX8_moves_115 (z_max gw1270 (Nat.le_of_ble_eq_true rfl) (Nat.le_of_ble_eq_true rfl) dX8_moves_116 ?_)))))
    refine z_iconst dX8_moves_119 zi_2 (z_iadd dX8_moves_120 ?_)
    refine z_let (a := ((zmax (z11 + (f_X8_column v3)) (v13 + ((3 : Int32) * (zabs (v15 - z5))))) + (2 : Int32))) (fun z17 => [(6, .int z11), (5, .int z6), (4, .int z5), (3, .int v3), (0, .ref a0), (1, .int a1), (2, .int a2)]) (fun z17 => .int z17 :: []) (fun z17 => ?_)
    refine z_istore (lv' := [(7, .int z17), (6, .int z11), (5, .int z6), (4, .int z5), (3, .int v3), (0, .ref a0), (1, .int a1), (2, .int a2)]) dX8_moves_121 (Nat.le_of_ble_eq_true rfl) rfl (z_iload 0 dX8_moves_123 rfl (z_iconst dX8_moves_125 zi_3 (z_iload 3 dX8_moves_126 rfl (z_iload 2 dX8_moves_128 rfl (z_isub dX8_moves_130 ?_)))))
    refine z_abs gw1244 (Nat.le_of_ble_eq_true rfl) (Nat.le_of_ble_eq_true rfl) dX8_moves_131 (z_imul dX8_moves_134 (z_iadd dX8_moves_135 (z_aload_n 5 dX8_moves_136 rfl (z_iload 2 dX8_moves_137 rfl ?_))))
    refine z_bind (fun v18 hb19 => ?_)
    refine z_callV (kc' := 0) (ks' := 0) (v := (some (.int v18))) (S1 := S) (w1 := r1.2) (st := [.int (z17 + ((3 : Int32) * (zabs (z5 - z6))))]) [.int z6] (m_X8_ready hW r1.2 a0 h0 z6 v18 hb19) zc8 h0 zy_X8_ready gw1268 gp36 gw1266 (Nat.le_of_ble_eq_true rfl) (Nat.le_of_ble_eq_true rfl) (Nat.le_of_ble_eq_true rfl) (Nat.le_of_ble_eq_true rfl) (zal hW) rfl dX8_moves_139 (z_at 142 _ [.int v18, .int (z17 + ((3 : Int32) * (zabs (z5 - z6))))] rfl rfl rfl ?_)
    refine z_aload_n 5 dX8_moves_142 rfl (z_iload 2 dX8_moves_143 rfl ?_)
    refine z_bind (fun v20 hb21 => ?_)
    refine z_callV (kc' := 0) (ks' := 0) (v := (some (.int v20))) (S1 := S) (w1 := r1.2) (st := [.int v18, .int (z17 + ((3 : Int32) * (zabs (z5 - z6))))]) [.int z6] (m_X8_at hW r1.2 a0 h0 z6 v20 hb21) zc8 h0 zy_X8_at gw1273 gp37 gw1271 (Nat.le_of_ble_eq_true rfl) (Nat.le_of_ble_eq_true rfl) (Nat.le_of_ble_eq_true rfl) (Nat.le_of_ble_eq_true rfl) (zal hW) rfl dX8_moves_145 (z_at 148 _ [.int v20, .int v18, .int (z17 + ((3 : Int32) * (zabs (z5 - z6))))] rfl rfl rfl ?_)
    refine z_iadd dX8_moves_148 (z_max gw1270 (Nat.le_of_ble_eq_true rfl) (Nat.le_of_ble_eq_true rfl) dX8_moves_149 (z_iconst dX8_moves_152 zi_2 (z_iadd dX8_moves_153 ?_)))
    refine z_let (a := ((zmax (z17 + ((3 : Int32) * (zabs (z5 - z6)))) (v18 + v20)) + (2 : Int32))) (fun z22 => [(7, .int z17), (6, .int z11), (5, .int z6), (4, .int z5), (3, .int v3), (0, .ref a0), (1, .int a1), (2, .int a2)]) (fun z22 => .int z22 :: []) (fun z22 => ?_)
    refine z_istore (lv' := [(8, .int z22), (7, .int z17), (6, .int z11), (5, .int z6), (4, .int z5), (3, .int v3), (0, .ref a0), (1, .int a1), (2, .int a2)]) dX8_moves_154 (Nat.le_of_ble_eq_true rfl) rfl (z_aload_n 6 dX8_moves_156 rfl (z_iload 4 dX8_moves_157 rfl (z_iload 1 dX8_moves_159 rfl (z_iconst dX8_moves_161 zi_0 ?_))))
    refine z_bind (fun r23 hb24 => ?_)
    refine z_callV (kc' := 0) (ks' := 0) (v := none) (S1 := S) (w1 := r23.2) (st := []) [.int z5, .int z17, .int (0 : Int32)] (m_X8_does hW r1.2 a0 h0 z5 z17 (0 : Int32) r23 hb24) zc8 h0 zy_X8_does gw1277 gp38 gw1275 (Nat.le_of_ble_eq_true rfl) (Nat.le_of_ble_eq_true rfl) (Nat.le_of_ble_eq_true rfl) (Nat.le_of_ble_eq_true rfl) (zal hW) rfl dX8_moves_162 (z_at 165 _ [] rfl rfl rfl ?_)
    refine z_aload_n 6 dX8_moves_165 rfl (z_iconst dX8_moves_166 zi_3 (z_iload 0 dX8_moves_167 rfl (z_iload 3 dX8_moves_169 rfl ?_)))
    refine z_bind (fun r25 hb26 => ?_)
    refine z_callV (kc' := 0) (ks' := 0) (v := none) (S1 := S) (w1 := r25.2) (st := []) [.int (3 : Int32), .int z22, .int z6] (m_X8_does hW r23.2 a0 h0 (3 : Int32) z22 z6 r25 hb26) zc8 h0 zy_X8_does gw1277 gp38 gw1275 (Nat.le_of_ble_eq_true rfl) (Nat.le_of_ble_eq_true rfl) (Nat.le_of_ble_eq_true rfl) (Nat.le_of_ble_eq_true rfl) (zal hW) rfl dX8_moves_171 (z_at 174 _ [] rfl rfl rfl ?_)
    refine z_aload_n 6 dX8_moves_174 rfl (z_iload 3 dX8_moves_175 rfl (z_iload 0 dX8_moves_177 rfl (z_iload_n 8 dX8_moves_179 rfl ?_)))
    refine z_callS (kc' := 0) (ks' := 0) (v := (some (.int (f_X8_column a2)))) (S1 := S) (w1 := r25.2) (st := [.int z22, .int z6, .ref a0]) [.int a2] (m_X8_column hW r25.2 a2) zy_X8_column gw1229 gw1228 (Nat.le_of_ble_eq_true rfl) (Nat.le_of_ble_eq_true rfl) (Nat.le_of_ble_eq_true rfl) (Nat.le_of_ble_eq_true rfl) (zal hW) rfl dX8_moves_180 (z_at 183 _ [.int (f_X8_column a2), .int z22, .int z6, .ref a0] rfl rfl rfl ?_)
    refine z_iadd dX8_moves_183 (z_iload_n 8 dX8_moves_184 rfl ?_)
    refine z_callS (kc' := 0) (ks' := 0) (v := (some (.int (f_X8_handling a2)))) (S1 := S) (w1 := r25.2) (st := [.int (z22 + (f_X8_column a2)), .int z6, .ref a0]) [.int a2] (m_X8_handling hW r25.2 a2) zy_X8_handling gw1281 gw1280 (Nat.le_of_ble_eq_true rfl) (Nat.le_of_ble_eq_true rfl) (Nat.le_of_ble_eq_true rfl) (Nat.le_of_ble_eq_true rfl) (zal hW) rfl dX8_moves_185 (z_at 188 _ [.int (f_X8_handling a2), .int (z22 + (f_X8_column a2)), .int z6, .ref a0] rfl rfl rfl ?_)
    refine z_iadd dX8_moves_188 (z_iload_n 8 dX8_moves_189 rfl ?_)
    refine z_callS (kc' := 0) (ks' := 0) (v := (some (.int (f_X8_column a2)))) (S1 := S) (w1 := r25.2) (st := [.int ((z22 + (f_X8_column a2)) + (f_X8_handling a2)), .int z6, .ref a0]) [.int a2] (m_X8_column hW r25.2 a2) zy_X8_column gw1229 gw1228 (Nat.le_of_ble_eq_true rfl) (Nat.le_of_ble_eq_true rfl) (Nat.le_of_ble_eq_true rfl) (Nat.le_of_ble_eq_true rfl) (zal hW) rfl dX8_moves_190 (z_at 193 _ [.int (f_X8_column a2), .int ((z22 + (f_X8_column a2)) + (f_X8_handling a2)), .int z6, .ref a0] rfl rfl rfl ?_)
    refine z_bind (fun r27 hb28 => ?_)
    refine z_callV (kc' := 0) (ks' := 0) (v := none) (S1 := S) (w1 := r27.2) (st := []) [.int z6, .int ((z22 + (f_X8_column a2)) + (f_X8_handling a2)), .int (f_X8_column a2)] (m_X8_does hW r25.2 a0 h0 z6 ((z22 + (f_X8_column a2)) + (f_X8_handling a2)) (f_X8_column a2) r27 hb28) zc8 h0 zy_X8_does gw1277 gp38 gw1275 (Nat.le_of_ble_eq_true rfl) (Nat.le_of_ble_eq_true rfl) (Nat.le_of_ble_eq_true rfl) (Nat.le_of_ble_eq_true rfl) (zal hW) rfl dX8_moves_193 (z_at 196 _ [] rfl rfl rfl ?_)
    refine z_sub (lv' := [(0, .ref a0), (1, .int a1), (2, .int a2), (3, .int v3)]) [6, 7, 8, 5] rfl ?_
    refine z_pc (pc' := 196) rfl ?_
    exact m_X8_moves_j196 hW r27.2 a0 h0 a1 a2 v3 
  · refine z_aload_n 4 dX8_moves_57 rfl (z_iload 2 dX8_moves_58 rfl (z_iload 0 dX8_moves_60 rfl (z_iload_n 3 dX8_moves_62 rfl ?_)))
    refine z_callS (kc' := 0) (ks' := 0) (v := (some (.int (f_X8_column v3)))) (S1 := S) (w1 := r1.2) (st := [.int z11, .int z5, .ref a0]) [.int v3] (m_X8_column hW r1.2 v3) zy_X8_column gw1229 gw1228 (Nat.le_of_ble_eq_true rfl) (Nat.le_of_ble_eq_true rfl) (Nat.le_of_ble_eq_true rfl) (Nat.le_of_ble_eq_true rfl) (zal hW) rfl dX8_moves_63 (z_at 66 _ [.int (f_X8_column v3), .int z11, .int z5, .ref a0] rfl rfl rfl ?_)
    refine z_iload_n 6 dX8_moves_66 rfl ?_
    refine z_callS (kc' := 0) (ks' := 0) (v := (some (.int (f_X8_column a2)))) (S1 := S) (w1 := r1.2) (st := [.int (f_X8_column v3), .int z11, .int z5, .ref a0]) [.int a2] (m_X8_column hW r1.2 a2) zy_X8_column gw1229 gw1228 (Nat.le_of_ble_eq_true rfl) (Nat.le_of_ble_eq_true rfl) (Nat.le_of_ble_eq_true rfl) (Nat.le_of_ble_eq_true rfl) (zal hW) rfl dX8_moves_67 (z_at 70 _ [.int (f_X8_column a2), .int (f_X8_column v3), .int z11, .int z5, .ref a0] rfl rfl rfl ?_)
    refine z_isub dX8_moves_70 (z_abs gw1244 (Nat.le_of_ble_eq_true rfl) (Nat.le_of_ble_eq_true rfl) dX8_moves_71 (z_iadd dX8_moves_74 (z_iload_n 6 dX8_moves_75 rfl ?_)))
    refine z_callS (kc' := 0) (ks' := 0) (v := (some (.int (f_X8_handling a2)))) (S1 := S) (w1 := r1.2) (st := [.int (z11 + (zabs ((f_X8_column v3) - (f_X8_column a2)))), .int z5, .ref a0]) [.int a2] (m_X8_handling hW r1.2 a2) zy_X8_handling gw1281 gw1280 (Nat.le_of_ble_eq_true rfl) (Nat.le_of_ble_eq_true rfl) (Nat.le_of_ble_eq_true rfl) (Nat.le_of_ble_eq_true rfl) (zal hW) rfl dX8_moves_76 (z_at 79 _ [.int (f_X8_handling a2), .int (z11 + (zabs ((f_X8_column v3) - (f_X8_column a2)))), .int z5, .ref a0] rfl rfl rfl ?_)
    refine z_iadd dX8_moves_79 (z_iload_n 6 dX8_moves_80 rfl ?_)
    refine z_callS (kc' := 0) (ks' := 0) (v := (some (.int (f_X8_column a2)))) (S1 := S) (w1 := r1.2) (st := [.int ((z11 + (zabs ((f_X8_column v3) - (f_X8_column a2)))) + (f_X8_handling a2)), .int z5, .ref a0]) [.int a2] (m_X8_column hW r1.2 a2) zy_X8_column gw1229 gw1228 (Nat.le_of_ble_eq_true rfl) (Nat.le_of_ble_eq_true rfl) (Nat.le_of_ble_eq_true rfl) (Nat.le_of_ble_eq_true rfl) (zal hW) rfl dX8_moves_81 (z_at 84 _ [.int (f_X8_column a2), .int ((z11 + (zabs ((f_X8_column v3) - (f_X8_column a2)))) + (f_X8_handling a2)), .int z5, .ref a0] rfl rfl rfl ?_)
    refine z_bind (fun r34 hb35 => ?_)
    refine z_callV (kc' := 0) (ks' := 0) (v := none) (S1 := S) (w1 := r34.2) (st := []) [.int z5, .int ((z11 + (zabs ((f_X8_column v3) - (f_X8_column a2)))) + (f_X8_handling a2)), .int (f_X8_column a2)] (m_X8_does hW r1.2 a0 h0 z5 ((z11 + (zabs ((f_X8_column v3) - (f_X8_column a2)))) + (f_X8_handling a2)) (f_X8_column a2) r34 hb35) zc8 h0 zy_X8_does gw1277 gp38 gw1275 (Nat.le_of_ble_eq_true rfl) (Nat.le_of_ble_eq_true rfl) (Nat.le_of_ble_eq_true rfl) (Nat.le_of_ble_eq_true rfl) (zal hW) rfl dX8_moves_84 (z_at 87 _ [] rfl rfl rfl ?_)
    refine z_goto 196 dX8_moves_87 rfl ?_
    refine z_sub (lv' := [(0, .ref a0), (1, .int a1), (2, .int a2), (3, .int v3)]) [4, 5, 6, 3] rfl ?_
    refine z_pc (pc' := 196) rfl ?_
    exact m_X8_moves_j196 hW r34.2 a0 h0 a1 a2 v3 

theorem m_X8_moves {E : ZE} {S : Zs} (hW : zWF S) (w : Zw) (a0 : Nat) (h0 : zObj S a0 8) (a1 : Int32) (a2 : Int32) : ∀ i, f_X8_moves S w a0 a1 a2 = some i → zMr E yX8_moves cX8_moves 9 none 8 0 0 [.ref a0, .int a1, .int a2] S w ((emW eU S) i) :=
  fun i hi => z_enter (by decide +kernel) (Nat.le_of_ble_eq_true rfl) (mw_X8_moves hW w a0 h0 a1 a2 i hi)
/-! ParkingRobotModel.bringsOut (I)V : W, depth 8 -/
abbrev i_X8_bringsOut : Zm := (yX8_bringsOut.cls, cX8_bringsOut, 7, none, [], yX8_bringsOut.name)
def f_X8_bringsOut (S : Zs) (w : Zw) (a0 : Nat) (a1 : Int32) : Option (Unit × Zw) :=
  (f_X8_jobBegins S w a0).bind fun r1 => (f_X8_bayOf S r1.2 a0 a1).bind fun v3 => zlet (f_X8_level v3) fun z5 => (f_X8_ready S r1.2 a0 z5).bind fun v6 => (f_X8_at S r1.2 a0 z5).bind fun v8 => zlet (((v6 + (zabs (v8 - (f_X8_column v3)))) + (f_X8_handling v3)) + (f_X8_column v3)) fun z10 => (f_X8_ready S r1.2 a0 (3 : Int32)).bind fun v11 => (f_X8_at S r1.2 a0 (3 : Int32)).bind fun v13 => zlet (v11 + ((3 : Int32) * (zabs (v13 - z5)))) fun z15 => zlet ((zmax z15 z10) + (2 : Int32)) fun z16 => (f_X8_does S r1.2 a0 z5 z16 (0 : Int32)).bind fun r17 => (f_X8_does S r17.2 a0 (3 : Int32) ((z16 + ((3 : Int32) * z5)) + (2 : Int32)) (0 : Int32)).bind fun r19 => (f_X8_notes S r19.2 a0 a1 v3 (-1 : Int32)).bind fun r21 => if zin (2 : Int32) (zlen S (zr S a0 1)) = true then if zin (2 : Int32) (zlen S (zr S a0 1)) = true then zlet (zput r21.2 (zr S a0 1) (zix (2 : Int32)) ((r21.2 (zr S a0 1) (zix (2 : Int32))) + (1 : Int32))) fun w25 => some ((), w25) else none else none
theorem mw_X8_bringsOut {E : ZE} {S : Zs} (hW : zWF S) (w : Zw) (a0 : Nat) (h0 : zObj S a0 8) (a1 : Int32) : zOk (E, i_X8_bringsOut, 8) 0 0 S w 0 [(0, .ref a0), (1, .int a1)] [] (emW eU S) (f_X8_bringsOut S w a0 a1) := by
  unfold f_X8_bringsOut
  refine z_aload_n 0 dX8_bringsOut_0 rfl ?_
  refine z_bind (fun r1 hb2 => ?_)
  refine z_callV (kc' := 0) (ks' := 0) (v := none) (S1 := S) (w1 := r1.2) (st := []) [] (m_X8_jobBegins hW w a0 h0 r1 hb2) zc8 h0 zy_X8_jobBegins gw1263 gp35 gw1261 (Nat.le_of_ble_eq_true rfl) (Nat.le_of_ble_eq_true rfl) (Nat.le_of_ble_eq_true rfl) (Nat.le_of_ble_eq_true rfl) (zal hW) rfl dX8_bringsOut_1 (z_at 4 _ [] rfl rfl rfl ?_)
  refine z_aload_n 0 dX8_bringsOut_4 rfl (z_iload_n 1 dX8_bringsOut_5 rfl ?_)
  refine z_bind (fun v3 hb4 => ?_)
  refine z_callV (kc' := 0) (ks' := 0) (v := (some (.int v3))) (S1 := S) (w1 := r1.2) (st := []) [.int a1] (m_X8_bayOf hW r1.2 a0 h0 a1 v3 hb4) zc8 h0 zy_X8_bayOf gw1305 gp43 gw1303 (Nat.le_of_ble_eq_true rfl) (Nat.le_of_ble_eq_true rfl) (Nat.le_of_ble_eq_true rfl) (Nat.le_of_ble_eq_true rfl) (zal hW) rfl dX8_bringsOut_6 (z_at 9 _ [.int v3] rfl rfl rfl ?_)
  refine z_istore_n (lv' := [(2, .int v3), (0, .ref a0), (1, .int a1)]) dX8_bringsOut_9 (Nat.le_of_ble_eq_true rfl) rfl (z_iload_n 0 dX8_bringsOut_10 rfl ?_)
  refine z_callS (kc' := 0) (ks' := 0) (v := (some (.int (f_X8_level v3)))) (S1 := S) (w1 := r1.2) (st := []) [.int v3] (m_X8_level hW r1.2 v3) zy_X8_level gw1242 gw1241 (Nat.le_of_ble_eq_true rfl) (Nat.le_of_ble_eq_true rfl) (Nat.le_of_ble_eq_true rfl) (Nat.le_of_ble_eq_true rfl) (zal hW) rfl dX8_bringsOut_11 (z_at 14 _ [.int (f_X8_level v3)] rfl rfl rfl ?_)
  refine z_let (a := (f_X8_level v3)) (fun z5 => [(2, .int v3), (0, .ref a0), (1, .int a1)]) (fun z5 => .int z5 :: []) (fun z5 => ?_)
  refine z_istore_n (lv' := [(3, .int z5), (2, .int v3), (0, .ref a0), (1, .int a1)]) dX8_bringsOut_14 (Nat.le_of_ble_eq_true rfl) rfl (z_aload_n 2 dX8_bringsOut_15 rfl (z_iload_n 0 dX8_bringsOut_16 rfl ?_))
  refine z_bind (fun v6 hb7 => ?_)
  refine z_callV (kc' := 0) (ks' := 0) (v := (some (.int v6))) (S1 := S) (w1 := r1.2) (st := []) [.int z5] (m_X8_ready hW r1.2 a0 h0 z5 v6 hb7) zc8 h0 zy_X8_ready gw1268 gp36 gw1266 (Nat.le_of_ble_eq_true rfl) (Nat.le_of_ble_eq_true rfl) (Nat.le_of_ble_eq_true rfl) (Nat.le_of_ble_eq_true rfl) (zal hW) rfl dX8_bringsOut_17 (z_at 20 _ [.int v6] rfl rfl rfl ?_)
  refine z_aload_n 2 dX8_bringsOut_20 rfl (z_iload_n 0 dX8_bringsOut_21 rfl ?_)
  refine z_bind (fun v8 hb9 => ?_)
  refine z_callV (kc' := 0) (ks' := 0) (v := (some (.int v8))) (S1 := S) (w1 := r1.2) (st := [.int v6]) [.int z5] (m_X8_at hW r1.2 a0 h0 z5 v8 hb9) zc8 h0 zy_X8_at gw1273 gp37 gw1271 (Nat.le_of_ble_eq_true rfl) (Nat.le_of_ble_eq_true rfl) (Nat.le_of_ble_eq_true rfl) (Nat.le_of_ble_eq_true rfl) (zal hW) rfl dX8_bringsOut_22 (z_at 25 _ [.int v8, .int v6] rfl rfl rfl ?_)
  refine z_iload_n 1 dX8_bringsOut_25 rfl ?_
  refine z_callS (kc' := 0) (ks' := 0) (v := (some (.int (f_X8_column v3)))) (S1 := S) (w1 := r1.2) (st := [.int v8, .int v6]) [.int v3] (m_X8_column hW r1.2 v3) zy_X8_column gw1229 gw1228 (Nat.le_of_ble_eq_true rfl) (Nat.le_of_ble_eq_true rfl) (Nat.le_of_ble_eq_true rfl) (Nat.le_of_ble_eq_true rfl) (zal hW) rfl dX8_bringsOut_26 (z_at 29 _ [.int (f_X8_column v3), .int v8, .int v6] rfl rfl rfl ?_)
  refine z_isub dX8_bringsOut_29 (z_abs gw1244 (Nat.le_of_ble_eq_true rfl) (Nat.le_of_ble_eq_true rfl) dX8_bringsOut_30 (z_iadd dX8_bringsOut_33 (z_iload_n 1 dX8_bringsOut_34 rfl ?_)))
  refine z_callS (kc' := 0) (ks' := 0) (v := (some (.int (f_X8_handling v3)))) (S1 := S) (w1 := r1.2) (st := [.int (v6 + (zabs (v8 - (f_X8_column v3))))]) [.int v3] (m_X8_handling hW r1.2 v3) zy_X8_handling gw1281 gw1280 (Nat.le_of_ble_eq_true rfl) (Nat.le_of_ble_eq_true rfl) (Nat.le_of_ble_eq_true rfl) (Nat.le_of_ble_eq_true rfl) (zal hW) rfl dX8_bringsOut_35 (z_at 38 _ [.int (f_X8_handling v3), .int (v6 + (zabs (v8 - (f_X8_column v3))))] rfl rfl rfl ?_)
  refine z_iadd dX8_bringsOut_38 (z_iload_n 1 dX8_bringsOut_39 rfl ?_)
  refine z_callS (kc' := 0) (ks' := 0) (v := (some (.int (f_X8_column v3)))) (S1 := S) (w1 := r1.2) (st := [.int ((v6 + (zabs (v8 - (f_X8_column v3)))) + (f_X8_handling v3))]) [.int v3] (m_X8_column hW r1.2 v3) zy_X8_column gw1229 gw1228 (Nat.le_of_ble_eq_true rfl) (Nat.le_of_ble_eq_true rfl) (Nat.le_of_ble_eq_true rfl) (Nat.le_of_ble_eq_true rfl) (zal hW) rfl dX8_bringsOut_40 (z_at 43 _ [.int (f_X8_column v3), .int ((v6 + (zabs (v8 - (f_X8_column v3)))) + (f_X8_handling v3))] rfl rfl rfl ?_)
  refine z_iadd dX8_bringsOut_43 ?_
  refine z_let (a := (((v6 + (zabs (v8 - (f_X8_column v3)))) + (f_X8_handling v3)) + (f_X8_column v3))) (fun z10 => [(3, .int z5), (2, .int v3), (0, .ref a0), (1, .int a1)]) (fun z10 => .int z10 :: []) (fun z10 => ?_)
  refine z_istore (lv' := [(4, .int z10), (3, .int z5), (2, .int v3), (0, .ref a0), (1, .int a1)]) dX8_bringsOut_44 (Nat.le_of_ble_eq_true rfl) rfl (z_aload_n 3 dX8_bringsOut_46 rfl (z_iconst dX8_bringsOut_47 zi_3 ?_))
  refine z_bind (fun v11 hb12 => ?_)
  refine z_callV (kc' := 0) (ks' := 0) (v := (some (.int v11))) (S1 := S) (w1 := r1.2) (st := []) [.int (3 : Int32)] (m_X8_ready hW r1.2 a0 h0 (3 : Int32) v11 hb12) zc8 h0 zy_X8_ready gw1268 gp36 gw1266 (Nat.le_of_ble_eq_true rfl) (Nat.le_of_ble_eq_true rfl) (Nat.le_of_ble_eq_true rfl) (Nat.le_of_ble_eq_true rfl) (zal hW) rfl dX8_bringsOut_48 (z_at 51 _ [.int v11] rfl rfl rfl ?_)
  refine z_iconst dX8_bringsOut_51 zi_3 (z_aload_n 3 dX8_bringsOut_52 rfl (z_iconst dX8_bringsOut_53 zi_3 ?_))
  refine z_bind (fun v13 hb14 => ?_)
  refine z_callV (kc' := 0) (ks' := 0) (v := (some (.int v13))) (S1 := S) (w1 := r1.2) (st := [.int (3 : Int32), .int v11]) [.int (3 : Int32)] (m_X8_at hW r1.2 a0 h0 (3 : Int32) v13 hb14) zc8 h0 zy_X8_at gw1273 gp37 gw1271 (Nat.le_of_ble_eq_true rfl) (Nat.le_of_ble_eq_true rfl) (Nat.le_of_ble_eq_true rfl) (Nat.le_of_ble_eq_true rfl) (zal hW) rfl dX8_bringsOut_54 (z_at 57 _ [.int v13, .int (3 : Int32), .int v11] rfl rfl rfl ?_)
  refine z_iload_n 1 dX8_bringsOut_57 rfl (z_isub dX8_bringsOut_58 (z_abs gw1244 (Nat.le_of_ble_eq_true rfl) (Nat.le_of_ble_eq_true rfl) dX8_bringsOut_59 (z_imul dX8_bringsOut_62 (z_iadd dX8_bringsOut_63 ?_))))
  refine z_let (a := (v11 + ((3 : Int32) * (zabs (v13 - z5))))) (fun z15 => [(4, .int z10), (3, .int z5), (2, .int v3), (0, .ref a0), (1, .int a1)]) (fun z15 => .int z15 :: []) (fun z15 => ?_)
  refine z_istore (lv' := [(5, .int z15), (4, .int z10), (3, .int z5), (2, .int v3), (0, .ref a0), (1, .int a1)]) dX8_bringsOut_64 (Nat.le_of_ble_eq_true rfl) rfl (z_iload 0 dX8_bringsOut_66 rfl (z_iload 1 dX8_bringsOut_68 rfl (z_max gw1270 (Nat.le_of_ble_eq_true rfl) (Nat.le_of_ble_eq_true rfl) dX8_bringsOut_70 (z_iconst dX8_bringsOut_73 zi_2 (z_iadd dX8_bringsOut_74 ?_)))))
  refine z_let (a := ((zmax z15 z10) + (2 : Int32))) (fun z16 => [(5, .int z15), (4, .int z10), (3, .int z5), (2, .int v3), (0, .ref a0), (1, .int a1)]) (fun z16 => .int z16 :: []) (fun z16 => ?_)
  refine z_istore (lv' := [(6, .int z16), (5, .int z15), (4, .int z10), (3, .int z5), (2, .int v3), (0, .ref a0), (1, .int a1)]) dX8_bringsOut_75 (Nat.le_of_ble_eq_true rfl) rfl (z_aload_n 5 dX8_bringsOut_77 rfl (z_iload_n 3 dX8_bringsOut_78 rfl (z_iload 0 dX8_bringsOut_79 rfl (z_iconst dX8_bringsOut_81 zi_0 ?_))))
  refine z_bind (fun r17 hb18 => ?_)
  refine z_callV (kc' := 0) (ks' := 0) (v := none) (S1 := S) (w1 := r17.2) (st := []) [.int z5, .int z16, .int (0 : Int32)] (m_X8_does hW r1.2 a0 h0 z5 z16 (0 : Int32) r17 hb18) zc8 h0 zy_X8_does gw1277 gp38 gw1275 (Nat.le_of_ble_eq_true rfl) (Nat.le_of_ble_eq_true rfl) (Nat.le_of_ble_eq_true rfl) (Nat.le_of_ble_eq_true rfl) (zal hW) rfl dX8_bringsOut_82 (z_at 85 _ [] rfl rfl rfl ?_)
  refine z_aload_n 5 dX8_bringsOut_85 rfl (z_iconst dX8_bringsOut_86 zi_3 (z_iload 0 dX8_bringsOut_87 rfl (z_iconst dX8_bringsOut_89 zi_3 (z_iload_n 3 dX8_bringsOut_90 rfl (z_imul dX8_bringsOut_91 ?_)))))
  refine z_iadd dX8_bringsOut_92 (z_iconst dX8_bringsOut_93 zi_2 (z_iadd dX8_bringsOut_94 (z_iconst dX8_bringsOut_95 zi_0 ?_)))
  refine z_bind (fun r19 hb20 => ?_)
  refine z_callV (kc' := 0) (ks' := 0) (v := none) (S1 := S) (w1 := r19.2) (st := []) [.int (3 : Int32), .int ((z16 + ((3 : Int32) * z5)) + (2 : Int32)), .int (0 : Int32)] (m_X8_does hW r17.2 a0 h0 (3 : Int32) ((z16 + ((3 : Int32) * z5)) + (2 : Int32)) (0 : Int32) r19 hb20) zc8 h0 zy_X8_does gw1277 gp38 gw1275 (Nat.le_of_ble_eq_true rfl) (Nat.le_of_ble_eq_true rfl) (Nat.le_of_ble_eq_true rfl) (Nat.le_of_ble_eq_true rfl) (zal hW) rfl dX8_bringsOut_96 (z_at 99 _ [] rfl rfl rfl ?_)
  refine z_aload_n 5 dX8_bringsOut_99 rfl (z_iload_n 6 dX8_bringsOut_100 rfl (z_iload_n 4 dX8_bringsOut_101 rfl (z_iconst dX8_bringsOut_102 zi_m1 ?_)))
  refine z_bind (fun r21 hb22 => ?_)
  refine z_callV (kc' := 0) (ks' := 0) (v := none) (S1 := S) (w1 := r21.2) (st := []) [.int a1, .int v3, .int (-1 : Int32)] (m_X8_notes hW r19.2 a0 h0 a1 v3 (-1 : Int32) r21 hb22) zc8 h0 zy_X8_notes gw1285 gp39 gw1283 (Nat.le_of_ble_eq_true rfl) (Nat.le_of_ble_eq_true rfl) (Nat.le_of_ble_eq_true rfl) (Nat.le_of_ble_eq_true rfl) (zal hW) rfl dX8_bringsOut_103 (z_at 106 _ [] rfl rfl rfl ?_)
  refine z_aload_n 5 dX8_bringsOut_106 rfl (z_getR zc8 1 (by decide) rfl gw1108 h0 (zW_some hW h0 1 rfl) dX8_bringsOut_107 (z_iconst dX8_bringsOut_110 zi_2 (z_dup2_11 dX8_bringsOut_111 rfl rfl ?_)))
  refine z_chk (fun c23 => ?_)
  refine z_iald (zW_arr hW h0 1 0 rfl) c23 dX8_bringsOut_112 (z_iconst dX8_bringsOut_113 zi_1 (z_iadd dX8_bringsOut_114 ?_))
  refine z_chk (fun c24 => ?_)
  refine z_iast (zW_arr hW h0 1 0 rfl) c24 dX8_bringsOut_115 (z_letw (fun w25 => ?_))
  exact z_vret zemW rfl dX8_bringsOut_116

theorem m_X8_bringsOut {E : ZE} {S : Zs} (hW : zWF S) (w : Zw) (a0 : Nat) (h0 : zObj S a0 8) (a1 : Int32) : ∀ i, f_X8_bringsOut S w a0 a1 = some i → zMr E yX8_bringsOut cX8_bringsOut 7 none 8 0 0 [.ref a0, .int a1] S w ((emW eU S) i) :=
  fun i hi => z_enter (by decide +kernel) (Nat.le_of_ble_eq_true rfl) (mw_X8_bringsOut hW w a0 h0 a1 i hi)
/-! ParkingRobotModel.takesOut (I)I : W, depth 9 -/
abbrev i_X8_takesOut : Zm := (yX8_takesOut.cls, cX8_takesOut, 4, (some .int), [], yX8_takesOut.name)
def f_X8_takesOut_j43 (S : Zs) (w : Zw) (x0 : Nat) (x1 : Int32) (x2 : Int32) : Option (Int32 × Zw) :=
  (f_X8_bringsOut S w x0 x1).bind fun r4 => if x2 < 0 then some ((1 : Int32), r4.2) else some ((2 : Int32), r4.2)
theorem m_X8_takesOut_j43 {E : ZE} {S : Zs} (hW : zWF S) (w : Zw) (x0 : Nat) (hx0 : zObj S x0 8) (x1 : Int32) (x2 : Int32) : zOk (E, i_X8_takesOut, 9) 0 0 S w 43 [(0, .ref x0), (1, .int x1), (2, .int x2)] [] (emW eI S) (f_X8_takesOut_j43 S w x0 x1 x2) := by
  unfold f_X8_takesOut_j43
  refine z_aload_n 0 dX8_takesOut_43 rfl (z_iload_n 1 dX8_takesOut_44 rfl ?_)
  refine z_bind (fun r4 hb5 => ?_)
  refine z_callV (kc' := 0) (ks' := 0) (v := none) (S1 := S) (w1 := r4.2) (st := []) [.int x1] (m_X8_bringsOut hW w x0 hx0 x1 r4 hb5) zc8 hx0 zy_X8_bringsOut gw1321 gp47 gw1319 (Nat.le_of_ble_eq_true rfl) (Nat.le_of_ble_eq_true rfl) (Nat.le_of_ble_eq_true rfl) (Nat.le_of_ble_eq_true rfl) (zal hW) rfl dX8_takesOut_45 (z_at 48 _ [] rfl rfl rfl ?_)
  refine z_iload_n 2 dX8_takesOut_48 rfl ?_
  refine z_if_lt 56 dX8_takesOut_49 rfl (fun q6 => ?_) (fun q6 => ?_)
  · refine z_iconst dX8_takesOut_56 zi_1 ?_
    exact z_iret zemW rfl dX8_takesOut_57
  · refine z_iconst dX8_takesOut_52 zi_2 (z_goto 57 dX8_takesOut_53 rfl ?_)
    exact z_iret zemW rfl dX8_takesOut_57

def f_X8_takesOut (S : Zs) (w : Zw) (a0 : Nat) (a1 : Int32) : Option (Int32 × Zw) :=
  (f_X8_blocking S w a0 a1).bind fun v1 => if v1 < 0 then f_X8_takesOut_j43 S w a0 a1 v1  else (f_X8_of S w a0 v1 (0 : Int32)).bind fun v7 => (f_X8_pickup S w a0 v1).bind fun v9 => (f_X8_bayOf S w a0 v1).bind fun v11 => (f_X8_chosen S w a0 v7 v9 v11).bind fun v13 => if 0 ≤ v13 then (f_X8_moves S w a0 v1 v13).bind fun r16 => f_X8_takesOut_j43 S r16.2 a0 a1 v1  else some ((-1 : Int32), w)
theorem mw_X8_takesOut {E : ZE} {S : Zs} (hW : zWF S) (w : Zw) (a0 : Nat) (h0 : zObj S a0 8) (a1 : Int32) : zOk (E, i_X8_takesOut, 9) 0 0 S w 0 [(0, .ref a0), (1, .int a1)] [] (emW eI S) (f_X8_takesOut S w a0 a1) := by
  unfold f_X8_takesOut
  refine z_aload_n 0 dX8_takesOut_0 rfl (z_iload_n 1 dX8_takesOut_1 rfl ?_)
  refine z_bind (fun v1 hb2 => ?_)
  refine z_callV (kc' := 0) (ks' := 0) (v := (some (.int v1))) (S1 := S) (w1 := w) (st := []) [.int a1] (m_X8_blocking hW w a0 h0 a1 v1 hb2) zc8 h0 zy_X8_blocking gw1309 gp44 gw1307 (Nat.le_of_ble_eq_true rfl) (Nat.le_of_ble_eq_true rfl) (Nat.le_of_ble_eq_true rfl) (Nat.le_of_ble_eq_true rfl) (zal hW) rfl dX8_takesOut_2 (z_at 5 _ [.int v1] rfl rfl rfl ?_)
  refine z_istore_n (lv' := [(2, .int v1), (0, .ref a0), (1, .int a1)]) dX8_takesOut_5 (Nat.le_of_ble_eq_true rfl) rfl (z_iload_n 0 dX8_takesOut_6 rfl ?_)
  refine z_if_lt 43 dX8_takesOut_7 rfl (fun q3 => ?_) (fun q3 => ?_)
  · refine z_sub (lv' := [(0, .ref a0), (1, .int a1), (2, .int v1)]) [1, 2, 0] rfl ?_
    refine z_pc (pc' := 43) rfl ?_
    exact m_X8_takesOut_j43 hW w a0 h0 a1 v1 
  · refine z_aload_n 1 dX8_takesOut_10 rfl (z_aload_n 1 dX8_takesOut_11 rfl (z_iload_n 0 dX8_takesOut_12 rfl (z_iconst dX8_takesOut_13 zi_0 ?_)))
    refine z_bind (fun v7 hb8 => ?_)
    refine z_callV (kc' := 0) (ks' := 0) (v := (some (.int v7))) (S1 := S) (w1 := w) (st := [.ref a0]) [.int v1, .int (0 : Int32)] (m_X8_of hW w a0 h0 v1 (0 : Int32) v7 hb8) zc8 h0 zy_X8_of gw1255 gp33 gw1253 (Nat.le_of_ble_eq_true rfl) (Nat.le_of_ble_eq_true rfl) (Nat.le_of_ble_eq_true rfl) (Nat.le_of_ble_eq_true rfl) (zal hW) rfl dX8_takesOut_14 (z_at 17 _ [.int v7, .ref a0] rfl rfl rfl ?_)
    refine z_aload_n 1 dX8_takesOut_17 rfl (z_iload_n 0 dX8_takesOut_18 rfl ?_)
    refine z_bind (fun v9 hb10 => ?_)
    refine z_callV (kc' := 0) (ks' := 0) (v := (some (.int v9))) (S1 := S) (w1 := w) (st := [.int v7, .ref a0]) [.int v1] (m_X8_pickup hW w a0 h0 v1 v9 hb10) zc8 h0 zy_X8_pickup gw1251 gp32 gw1249 (Nat.le_of_ble_eq_true rfl) (Nat.le_of_ble_eq_true rfl) (Nat.le_of_ble_eq_true rfl) (Nat.le_of_ble_eq_true rfl) (zal hW) rfl dX8_takesOut_19 (z_at 22 _ [.int v9, .int v7, .ref a0] rfl rfl rfl ?_)
    refine z_aload_n 1 dX8_takesOut_22 rfl (z_iload_n 0 dX8_takesOut_23 rfl ?_)
    refine z_bind (fun v11 hb12 => ?_)
    refine z_callV (kc' := 0) (ks' := 0) (v := (some (.int v11))) (S1 := S) (w1 := w) (st := [.int v9, .int v7, .ref a0]) [.int v1] (m_X8_bayOf hW w a0 h0 v1 v11 hb12) zc8 h0 zy_X8_bayOf gw1305 gp43 gw1303 (Nat.le_of_ble_eq_true rfl) (Nat.le_of_ble_eq_true rfl) (Nat.le_of_ble_eq_true rfl) (Nat.le_of_ble_eq_true rfl) (zal hW) rfl dX8_takesOut_24 (z_at 27 _ [.int v11, .int v9, .int v7, .ref a0] rfl rfl rfl ?_)
    refine z_bind (fun v13 hb14 => ?_)
    refine z_callV (kc' := 0) (ks' := 0) (v := (some (.int v13))) (S1 := S) (w1 := w) (st := []) [.int v7, .int v9, .int v11] (m_X8_chosen hW w a0 h0 v7 v9 v11 v13 hb14) zc8 h0 zy_X8_chosen gw1219 gp28 gw1217 (Nat.le_of_ble_eq_true rfl) (Nat.le_of_ble_eq_true rfl) (Nat.le_of_ble_eq_true rfl) (Nat.le_of_ble_eq_true rfl) (zal hW) rfl dX8_takesOut_27 (z_at 30 _ [.int v13] rfl rfl rfl ?_)
    refine z_istore_n (lv' := [(3, .int v13), (2, .int v1), (0, .ref a0), (1, .int a1)]) dX8_takesOut_30 (Nat.le_of_ble_eq_true rfl) rfl (z_iload_n 0 dX8_takesOut_31 rfl ?_)
    refine z_if_ge 37 dX8_takesOut_32 rfl (fun q15 => ?_) (fun q15 => ?_)
    · refine z_aload_n 2 dX8_takesOut_37 rfl (z_iload_n 1 dX8_takesOut_38 rfl (z_iload_n 0 dX8_takesOut_39 rfl ?_))
      refine z_bind (fun r16 hb17 => ?_)
      refine z_callV (kc' := 0) (ks' := 0) (v := none) (S1 := S) (w1 := r16.2) (st := []) [.int v1, .int v13] (m_X8_moves hW w a0 h0 v1 v13 r16 hb17) zc8 h0 zy_X8_moves gw1317 gp46 gw1315 (Nat.le_of_ble_eq_true rfl) (Nat.le_of_ble_eq_true rfl) (Nat.le_of_ble_eq_true rfl) (Nat.le_of_ble_eq_true rfl) (zal hW) rfl dX8_takesOut_40 (z_at 43 _ [] rfl rfl rfl ?_)
      refine z_sub (lv' := [(0, .ref a0), (1, .int a1), (2, .int v1)]) [2, 3, 1] rfl ?_
      refine z_pc (pc' := 43) rfl ?_
      exact m_X8_takesOut_j43 hW r16.2 a0 h0 a1 v1 
    · refine z_iconst dX8_takesOut_35 zi_m1 ?_
      exact z_iret zemW rfl dX8_takesOut_36

theorem m_X8_takesOut {E : ZE} {S : Zs} (hW : zWF S) (w : Zw) (a0 : Nat) (h0 : zObj S a0 8) (a1 : Int32) : ∀ i, f_X8_takesOut S w a0 a1 = some i → zMr E yX8_takesOut cX8_takesOut 4 ((some .int)) 9 0 0 [.ref a0, .int a1] S w ((emW eI S) i) :=
  fun i hi => z_enter (by decide +kernel) (Nat.le_of_ble_eq_true rfl) (mw_X8_takesOut hW w a0 h0 a1 i hi)
/-! ParkingRobotModel.goes ()Z : W, depth 10 -/
abbrev i_X8_goes : Zm := (yX8_goes.cls, cX8_goes, 4, (some .boolean), [], yX8_goes.name)
def f_X8_goes_b57 (S : Zs) (x0 : Nat) (x1 : Int32) (k12 : (Int32 × Zw) → Option (Int32 × Zw)) (k : (Int32 × Zw) → Option (Int32 × Zw)) (x3 : Int32) (w : Zw) : Option (Int32 × Zw) :=
  if zin (6 : Int32) (zlen S (zr S x0 1)) = true then if (w (zr S x0 1) (zix (6 : Int32))) ≤ x3 then k12 ((x1 + (1 : Int32)), w) else if zin (((299 : Int32) + ((5 : Int32) * x3)) + (4 : Int32)) (zlen S (zr S x0 1)) = true then zlet (zput w x0 20 (zmax (w x0 20) (w (zr S x0 1) (zix (((299 : Int32) + ((5 : Int32) * x3)) + (4 : Int32)))))) fun w14 => k ((x3 + (1 : Int32)), w14) else none else none
def f_X8_goes_l57 (S : Zs) (x0 : Nat) (x1 : Int32) (k12 : (Int32 × Zw) → Option (Int32 × Zw)) (a : Int32 × Zw) : Option (Int32 × Zw) :=
  zlp (fun k a => f_X8_goes_b57 S x0 x1 k12 k a.1 a.2) zFU a
theorem m_X8_goes_l57 {E : ZE} {S : Zs} (hW : zWF S) (x0 : Nat) (hx0 : zObj S x0 8) (x1 : Int32) (k12 : (Int32 × Zw) → Option (Int32 × Zw)) (hk12 : ∀ a : Int32 × Zw, zOk (E, i_X8_goes, 10) 0 0 S a.2 12 [(0, .ref x0), (1, .int a.1)] [] (emW eI S) (k12 a)) : ∀ a : Int32 × Zw, zOk (E, i_X8_goes, 10) 0 0 S a.2 57 [(0, .ref x0), (1, .int x1), (3, .int a.1)] [] (emW eI S) (f_X8_goes_l57 S x0 x1 k12 a) := by
  intro a
  refine z_lp (P := fun _ => True) (W9 := fun a : Int32 × Zw => a.2) (L9 := fun a : Int32 × Zw => [(0, .ref x0), (1, .int x1), (3, .int a.1)]) (T9 := fun _ => []) (fun k hk9 a _ => ?_) zFU a trivial
  have hk : ∀ a : Int32 × Zw, zOk (E, i_X8_goes, 10) 0 0 S a.2 57 [(0, .ref x0), (1, .int x1), (3, .int a.1)] [] (emW eI S) (k a) := fun a => hk9 a trivial
  clear hk9
  obtain ⟨x3, w⟩ := a
  show zOk (E, i_X8_goes, 10) 0 0 S w 57 [(0, .ref x0), (1, .int x1), (3, .int x3)] [] (emW eI S) (f_X8_goes_b57 S x0 x1 k12 k x3 w)
  unfold f_X8_goes_b57
  refine z_iload_n 2 dX8_goes_57 rfl (z_aload_n 0 dX8_goes_58 rfl (z_getR zc8 1 (by decide) rfl gw1108 hx0 (zW_some hW hx0 1 rfl) dX8_goes_59 (z_bipush dX8_goes_62 zb_6 ?_)))
  refine z_chk (fun c11 => ?_)
  refine z_iald (zW_arr hW hx0 1 0 rfl) c11 dX8_goes_64 ?_
  refine z_icmp_ge 99 dX8_goes_65 rfl (fun q12 => ?_) (fun q12 => ?_)
  · refine z_iinc (v := (x1 + (1 : Int32))) (lv' := [(1, .int (x1 + (1 : Int32))), (0, .ref x0), (3, .int x3)]) 1 dX8_goes_99 rfl (zi_inc _ zi_1) (Nat.le_of_ble_eq_true rfl) rfl (z_goto 12 dX8_goes_102 rfl ?_)
    refine z_sub (lv' := [(0, .ref x0), (1, .int (x1 + (1 : Int32)))]) [1, 0] rfl ?_
    refine z_pc (pc' := 12) rfl ?_
    exact hk12 ((x1 + (1 : Int32)), w)
  · refine z_aload_n 0 dX8_goes_68 rfl (z_aload_n 0 dX8_goes_69 rfl (z_getI zc8 20 (by decide) rfl gw1127 hx0 dX8_goes_70 (z_aload_n 0 dX8_goes_73 rfl (z_getR zc8 1 (by decide) rfl gw1108 hx0 (zW_some hW hx0 1 rfl) dX8_goes_74 (z_sipush dX8_goes_77 zs_299 ?_)))))
    refine z_iconst dX8_goes_80 zi_5 (z_iload_n 2 dX8_goes_81 rfl (z_imul dX8_goes_82 (z_iadd dX8_goes_83 (z_iconst dX8_goes_84 zi_4 (z_iadd dX8_goes_85 ?_)))))
    refine z_chk (fun c13 => ?_)
    refine z_iald (zW_arr hW hx0 1 0 rfl) c13 dX8_goes_86 (z_max gw1270 (Nat.le_of_ble_eq_true rfl) (Nat.le_of_ble_eq_true rfl) dX8_goes_87 ?_)
    refine z_putI zc8 20 (by decide) (Or.inl rfl) rfl gw1127 hx0 dX8_goes_90 (z_letw (fun w14 => ?_))
    refine z_iinc (v := (x3 + (1 : Int32))) (lv' := [(3, .int (x3 + (1 : Int32))), (0, .ref x0), (1, .int x1)]) 2 dX8_goes_93 rfl (zi_inc _ zi_1) (Nat.le_of_ble_eq_true rfl) rfl (z_goto 57 dX8_goes_96 rfl ?_)
    refine z_sub (lv' := [(0, .ref x0), (1, .int x1), (3, .int (x3 + (1 : Int32)))]) [1, 2, 0] rfl ?_
    refine z_pc (pc' := 57) rfl ?_
    exact hk ((x3 + (1 : Int32)), w14)

def f_X8_goes_b12 (S : Zs) (x0 : Nat) (k : (Int32 × Zw) → Option (Int32 × Zw)) (x1 : Int32) (w : Zw) : Option (Int32 × Zw) :=
  if (w x0 16) ≤ x1 then some ((1 : Int32), w) else if zin x1 (zlen S (zr S x0 14)) = true then (f_X8_takesOut S w x0 (w (zr S x0 14) (zix x1))).bind fun r5 => if 0 ≤ r5.1 then (zlet (zput r5.2 x0 19 ((r5.2 x0 19) + r5.1)) fun w8 => if zin (6 : Int32) (zlen S (zr S x0 1)) = true then zlet ((w8 (zr S x0 1) (zix (6 : Int32))) - r5.1) fun z10 => f_X8_goes_l57 S x0 x1 k (z10, w8) else none) else some ((0 : Int32), r5.2) else none
def f_X8_goes_l12 (S : Zs) (x0 : Nat) (a : Int32 × Zw) : Option (Int32 × Zw) :=
  zlp (fun k a => f_X8_goes_b12 S x0 k a.1 a.2) zFU a
theorem m_X8_goes_l12 {E : ZE} {S : Zs} (hW : zWF S) (x0 : Nat) (hx0 : zObj S x0 8) : ∀ a : Int32 × Zw, zOk (E, i_X8_goes, 10) 0 0 S a.2 12 [(0, .ref x0), (1, .int a.1)] [] (emW eI S) (f_X8_goes_l12 S x0 a) := by
  intro a
  refine z_lp (P := fun _ => True) (W9 := fun a : Int32 × Zw => a.2) (L9 := fun a : Int32 × Zw => [(0, .ref x0), (1, .int a.1)]) (T9 := fun _ => []) (fun k hk9 a _ => ?_) zFU a trivial
  have hk : ∀ a : Int32 × Zw, zOk (E, i_X8_goes, 10) 0 0 S a.2 12 [(0, .ref x0), (1, .int a.1)] [] (emW eI S) (k a) := fun a => hk9 a trivial
  clear hk9
  obtain ⟨x1, w⟩ := a
  show zOk (E, i_X8_goes, 10) 0 0 S w 12 [(0, .ref x0), (1, .int x1)] [] (emW eI S) (f_X8_goes_b12 S x0 k x1 w)
  unfold f_X8_goes_b12
  refine z_iload_n 1 dX8_goes_12 rfl (z_aload_n 0 dX8_goes_13 rfl (z_getI zc8 16 (by decide) rfl gw1123 hx0 dX8_goes_14 ?_))
  refine z_icmp_ge 105 dX8_goes_17 rfl (fun q3 => ?_) (fun q3 => ?_)
  · refine z_iconst dX8_goes_105 zi_1 ?_
    exact z_zret zemW rfl rfl dX8_goes_106
  · refine z_aload_n 0 dX8_goes_20 rfl (z_aload_n 0 dX8_goes_21 rfl (z_getR zc8 14 (by decide) rfl gw1121 hx0 (zW_some hW hx0 14 rfl) dX8_goes_22 (z_iload_n 1 dX8_goes_25 rfl ?_)))
    refine z_chk (fun c4 => ?_)
    refine z_iald (zW_arr hW hx0 14 0 rfl) c4 dX8_goes_26 ?_
    refine z_bind (fun r5 hb6 => ?_)
    refine z_callV (kc' := 0) (ks' := 0) (v := (some (.int r5.1))) (S1 := S) (w1 := r5.2) (st := []) [.int (w (zr S x0 14) (zix x1))] (m_X8_takesOut hW w x0 hx0 (w (zr S x0 14) (zix x1)) r5 hb6) zc8 hx0 zy_X8_takesOut gw1313 gp45 gw1311 (Nat.le_of_ble_eq_true rfl) (Nat.le_of_ble_eq_true rfl) (Nat.le_of_ble_eq_true rfl) (Nat.le_of_ble_eq_true rfl) (zal hW) rfl dX8_goes_27 (z_at 30 _ [.int r5.1] rfl rfl rfl ?_)
    refine z_istore_n (lv' := [(2, .int r5.1), (0, .ref x0), (1, .int x1)]) dX8_goes_30 (Nat.le_of_ble_eq_true rfl) rfl (z_iload_n 0 dX8_goes_31 rfl ?_)
    refine z_if_ge 37 dX8_goes_32 rfl (fun q7 => ?_) (fun q7 => ?_)
    · refine z_aload_n 1 dX8_goes_37 rfl (z_dup dX8_goes_38 rfl (z_getI zc8 19 (by decide) rfl gw1126 hx0 dX8_goes_39 (z_iload_n 0 dX8_goes_42 rfl (z_iadd dX8_goes_43 ?_))))
      refine z_putI zc8 19 (by decide) (Or.inl rfl) rfl gw1126 hx0 dX8_goes_44 (z_letw (fun w8 => ?_))
      refine z_aload_n 1 dX8_goes_47 rfl (z_getR zc8 1 (by decide) rfl gw1108 hx0 (zW_some hW hx0 1 rfl) dX8_goes_48 (z_bipush dX8_goes_51 zb_6 ?_))
      refine z_chk (fun c9 => ?_)
      refine z_iald (zW_arr hW hx0 1 0 rfl) c9 dX8_goes_53 (z_iload_n 0 dX8_goes_54 rfl (z_isub dX8_goes_55 ?_))
      refine z_let (a := ((w8 (zr S x0 1) (zix (6 : Int32))) - r5.1)) (fun z10 => [(2, .int r5.1), (0, .ref x0), (1, .int x1)]) (fun z10 => .int z10 :: []) (fun z10 => ?_)
      refine z_istore_n (lv' := [(3, .int z10), (2, .int r5.1), (0, .ref x0), (1, .int x1)]) dX8_goes_56 (Nat.le_of_ble_eq_true rfl) rfl ?_
      refine z_sub (lv' := [(0, .ref x0), (1, .int x1), (3, .int z10)]) [2, 3, 0] rfl ?_
      refine z_pc (pc' := 57) rfl ?_
      exact m_X8_goes_l57 hW x0 hx0 x1 k hk (z10, w8)
    · refine z_iconst dX8_goes_35 zi_0 ?_
      exact z_zret zemW rfl rfl dX8_goes_36

def f_X8_goes (S : Zs) (w : Zw) (a0 : Nat) : Option (Int32 × Zw) :=
  zlet (zput w a0 19 (0 : Int32)) fun w1 => zlet (zput w1 a0 20 (0 : Int32)) fun w2 => f_X8_goes_l12 S a0 ((0 : Int32), w2)
theorem mw_X8_goes {E : ZE} {S : Zs} (hW : zWF S) (w : Zw) (a0 : Nat) (h0 : zObj S a0 8) : zOk (E, i_X8_goes, 10) 0 0 S w 0 [(0, .ref a0)] [] (emW eI S) (f_X8_goes S w a0) := by
  unfold f_X8_goes
  refine z_aload_n 0 dX8_goes_0 rfl (z_iconst dX8_goes_1 zi_0 ?_)
  refine z_putI zc8 19 (by decide) (Or.inl rfl) rfl gw1126 h0 dX8_goes_2 (z_letw (fun w1 => ?_))
  refine z_aload_n 0 dX8_goes_5 rfl (z_iconst dX8_goes_6 zi_0 ?_)
  refine z_putI zc8 20 (by decide) (Or.inl rfl) rfl gw1127 h0 dX8_goes_7 (z_letw (fun w2 => ?_))
  refine z_iconst dX8_goes_10 zi_0 (z_istore_n (lv' := [(1, .int (0 : Int32)), (0, .ref a0)]) dX8_goes_11 (Nat.le_of_ble_eq_true rfl) rfl ?_)
  refine z_sub (lv' := [(0, .ref a0), (1, .int (0 : Int32))]) [1, 0] rfl ?_
  refine z_pc (pc' := 12) rfl ?_
  exact m_X8_goes_l12 hW a0 h0 ((0 : Int32), w2)

theorem m_X8_goes {E : ZE} {S : Zs} (hW : zWF S) (w : Zw) (a0 : Nat) (h0 : zObj S a0 8) : ∀ i, f_X8_goes S w a0 = some i → zMr E yX8_goes cX8_goes 4 ((some .boolean)) 10 0 0 [.ref a0] S w ((emW eI S) i) :=
  fun i hi => z_enter (by decide +kernel) (Nat.le_of_ble_eq_true rfl) (mw_X8_goes hW w a0 h0 i hi)
/-! ParkingRobotModel.triesRow ()V : W, depth 11 -/
abbrev i_X8_triesRow : Zm := (yX8_triesRow.cls, cX8_triesRow, 3, none, [], yX8_triesRow.name)
def f_X8_triesRow_b94 (S : Zs) (x0 : Nat) (k : (Int32 × Zw) → Option (Unit × Zw)) (x2 : Int32) (w : Zw) : Option (Unit × Zw) :=
  if (w x0 16) ≤ x2 then some ((), w) else if zin x2 (zlen S (zr S x0 14)) = true then if zin x2 (zlen S (zr S x0 15)) = true then zlet (zput w (zr S x0 15) (zix x2) (w (zr S x0 14) (zix x2))) fun w14 => k ((x2 + (1 : Int32)), w14) else none else none
def f_X8_triesRow_l94 (S : Zs) (x0 : Nat) (a : Int32 × Zw) : Option (Unit × Zw) :=
  zlp (fun k a => f_X8_triesRow_b94 S x0 k a.1 a.2) zFU a
theorem m_X8_triesRow_l94 {E : ZE} {S : Zs} (hW : zWF S) (x0 : Nat) (hx0 : zObj S x0 8) : ∀ a : Int32 × Zw, zOk (E, i_X8_triesRow, 11) 0 0 S a.2 94 [(0, .ref x0), (2, .int a.1)] [] (emW eU S) (f_X8_triesRow_l94 S x0 a) := by
  intro a
  refine z_lp (P := fun _ => True) (W9 := fun a : Int32 × Zw => a.2) (L9 := fun a : Int32 × Zw => [(0, .ref x0), (2, .int a.1)]) (T9 := fun _ => []) (fun k hk9 a _ => ?_) zFU a trivial
  have hk : ∀ a : Int32 × Zw, zOk (E, i_X8_triesRow, 11) 0 0 S a.2 94 [(0, .ref x0), (2, .int a.1)] [] (emW eU S) (k a) := fun a => hk9 a trivial
  clear hk9
  obtain ⟨x2, w⟩ := a
  show zOk (E, i_X8_triesRow, 11) 0 0 S w 94 [(0, .ref x0), (2, .int x2)] [] (emW eU S) (f_X8_triesRow_b94 S x0 k x2 w)
  unfold f_X8_triesRow_b94
  refine z_iload_n 1 dX8_triesRow_94 rfl (z_aload_n 0 dX8_triesRow_95 rfl (z_getI zc8 16 (by decide) rfl gw1123 hx0 dX8_triesRow_96 ?_))
  refine z_icmp_ge 120 dX8_triesRow_99 rfl (fun q11 => ?_) (fun q11 => ?_)
  · exact z_vret zemW rfl dX8_triesRow_120
  · refine z_aload_n 0 dX8_triesRow_102 rfl (z_getR zc8 15 (by decide) rfl gw1122 hx0 (zW_some hW hx0 15 rfl) dX8_triesRow_103 (z_iload_n 1 dX8_triesRow_106 rfl (z_aload_n 0 dX8_triesRow_107 rfl (z_getR zc8 14 (by decide) rfl gw1121 hx0 (zW_some hW hx0 14 rfl) dX8_triesRow_108 (z_iload_n 1 dX8_triesRow_111 rfl ?_)))))
    refine z_chk (fun c12 => ?_)
    refine z_iald (zW_arr hW hx0 14 0 rfl) c12 dX8_triesRow_112 ?_
    refine z_chk (fun c13 => ?_)
    refine z_iast (zW_arr hW hx0 15 0 rfl) c13 dX8_triesRow_113 (z_letw (fun w14 => ?_))
    refine z_iinc (v := (x2 + (1 : Int32))) (lv' := [(2, .int (x2 + (1 : Int32))), (0, .ref x0)]) 1 dX8_triesRow_114 rfl (zi_inc _ zi_1) (Nat.le_of_ble_eq_true rfl) rfl (z_goto 94 dX8_triesRow_117 rfl ?_)
    refine z_sub (lv' := [(0, .ref x0), (2, .int (x2 + (1 : Int32)))]) [1, 0] rfl ?_
    refine z_pc (pc' := 94) rfl ?_
    exact hk ((x2 + (1 : Int32)), w14)

def f_X8_triesRow_j76 (S : Zs) (w : Zw) (x0 : Nat) : Option (Unit × Zw) :=
  zlet (zput w x0 17 (w x0 19)) fun w9 => zlet (zput w9 x0 18 (w9 x0 20)) fun w10 => f_X8_triesRow_l94 S x0 ((0 : Int32), w10)
theorem m_X8_triesRow_j76 {E : ZE} {S : Zs} (hW : zWF S) (w : Zw) (x0 : Nat) (hx0 : zObj S x0 8) : zOk (E, i_X8_triesRow, 11) 0 0 S w 76 [(0, .ref x0)] [] (emW eU S) (f_X8_triesRow_j76 S w x0) := by
  unfold f_X8_triesRow_j76
  refine z_aload_n 0 dX8_triesRow_76 rfl (z_aload_n 0 dX8_triesRow_77 rfl (z_getI zc8 19 (by decide) rfl gw1126 hx0 dX8_triesRow_78 ?_))
  refine z_putI zc8 17 (by decide) (Or.inl rfl) rfl gw1124 hx0 dX8_triesRow_81 (z_letw (fun w9 => ?_))
  refine z_aload_n 0 dX8_triesRow_84 rfl (z_aload_n 0 dX8_triesRow_85 rfl (z_getI zc8 20 (by decide) rfl gw1127 hx0 dX8_triesRow_86 ?_))
  refine z_putI zc8 18 (by decide) (Or.inl rfl) rfl gw1125 hx0 dX8_triesRow_89 (z_letw (fun w10 => ?_))
  refine z_iconst dX8_triesRow_92 zi_0 (z_istore_n (lv' := [(2, .int (0 : Int32)), (0, .ref x0)]) dX8_triesRow_93 (Nat.le_of_ble_eq_true rfl) rfl ?_)
  refine z_sub (lv' := [(0, .ref x0), (2, .int (0 : Int32))]) [1, 0] rfl ?_
  refine z_pc (pc' := 94) rfl ?_
  exact m_X8_triesRow_l94 hW x0 hx0 ((0 : Int32), w10)

def f_X8_triesRow (S : Zs) (w : Zw) (a0 : Nat) : Option (Unit × Zw) :=
  (f_X8_copies S w (zr S a0 1) (0 : Int32) (zr S a0 3) (0 : Int32)).bind fun r1 => (f_X8_goes S r1.2 a0).bind fun r3 => (f_X8_copies S r3.2 (zr S a0 3) (0 : Int32) (zr S a0 1) (0 : Int32)).bind fun r5 => if r3.1 = 0 then some ((), r5.2) else if (r5.2 a0 17) ≤ 0 then f_X8_triesRow_j76 S r5.2 a0  else if (r5.2 a0 17) < (r5.2 a0 19) then some ((), r5.2) else if (r5.2 a0 19) = (r5.2 a0 17) then (if (r5.2 a0 20) < (r5.2 a0 18) then f_X8_triesRow_j76 S r5.2 a0  else some ((), r5.2)) else f_X8_triesRow_j76 S r5.2 a0 
theorem mw_X8_triesRow {E : ZE} {S : Zs} (hW : zWF S) (w : Zw) (a0 : Nat) (h0 : zObj S a0 8) : zOk (E, i_X8_triesRow, 11) 0 0 S w 0 [(0, .ref a0)] [] (emW eU S) (f_X8_triesRow S w a0) := by
  unfold f_X8_triesRow
  refine z_aload_n 0 dX8_triesRow_0 rfl (z_getR zc8 1 (by decide) rfl gw1108 h0 (zW_some hW h0 1 rfl) dX8_triesRow_1 (z_iconst dX8_triesRow_4 zi_0 (z_aload_n 0 dX8_triesRow_5 rfl (z_getR zc8 3 (by decide) rfl gw1110 h0 (zW_some hW h0 3 rfl) dX8_triesRow_6 (z_iconst dX8_triesRow_9 zi_0 ?_)))))
  refine z_bind (fun r1 hb2 => ?_)
  refine z_callS (kc' := 0) (ks' := 0) (v := none) (S1 := S) (w1 := r1.2) (st := []) [.ref (zr S a0 1), .int (0 : Int32), .ref (zr S a0 3), .int (0 : Int32)] (m_X8_copies hW w (zr S a0 1) (zW_arr hW h0 1 0 rfl) (0 : Int32) (zr S a0 3) (zW_arr hW h0 3 0 rfl) (0 : Int32) r1 hb2) zy_X8_copies gw1198 gw1197 (Nat.le_of_ble_eq_true rfl) (Nat.le_of_ble_eq_true rfl) (Nat.le_of_ble_eq_true rfl) (Nat.le_of_ble_eq_true rfl) (zal hW) rfl dX8_triesRow_10 (z_at 13 _ [] rfl rfl rfl ?_)
  refine z_aload_n 0 dX8_triesRow_13 rfl ?_
  refine z_bind (fun r3 hb4 => ?_)
  refine z_callV (kc' := 0) (ks' := 0) (v := (some (.int r3.1))) (S1 := S) (w1 := r3.2) (st := []) [] (m_X8_goes hW r1.2 a0 h0 r3 hb4) zc8 h0 zy_X8_goes gw1400 gp56 gw1398 (Nat.le_of_ble_eq_true rfl) (Nat.le_of_ble_eq_true rfl) (Nat.le_of_ble_eq_true rfl) (Nat.le_of_ble_eq_true rfl) (zal hW) rfl dX8_triesRow_14 (z_at 17 _ [.int r3.1] rfl rfl rfl ?_)
  refine z_istore_n (lv' := [(1, .int r3.1), (0, .ref a0)]) dX8_triesRow_17 (Nat.le_of_ble_eq_true rfl) rfl (z_aload_n 1 dX8_triesRow_18 rfl (z_getR zc8 3 (by decide) rfl gw1110 h0 (zW_some hW h0 3 rfl) dX8_triesRow_19 (z_iconst dX8_triesRow_22 zi_0 (z_aload_n 1 dX8_triesRow_23 rfl (z_getR zc8 1 (by decide) rfl gw1108 h0 (zW_some hW h0 1 rfl) dX8_triesRow_24 ?_)))))
  refine z_iconst dX8_triesRow_27 zi_0 ?_
  refine z_bind (fun r5 hb6 => ?_)
  refine z_callS (kc' := 0) (ks' := 0) (v := none) (S1 := S) (w1 := r5.2) (st := []) [.ref (zr S a0 3), .int (0 : Int32), .ref (zr S a0 1), .int (0 : Int32)] (m_X8_copies hW r3.2 (zr S a0 3) (zW_arr hW h0 3 0 rfl) (0 : Int32) (zr S a0 1) (zW_arr hW h0 1 0 rfl) (0 : Int32) r5 hb6) zy_X8_copies gw1198 gw1197 (Nat.le_of_ble_eq_true rfl) (Nat.le_of_ble_eq_true rfl) (Nat.le_of_ble_eq_true rfl) (Nat.le_of_ble_eq_true rfl) (zal hW) rfl dX8_triesRow_28 (z_at 31 _ [] rfl rfl rfl ?_)
  refine z_iload_n 0 dX8_triesRow_31 rfl ?_
  refine z_if_eq 75 dX8_triesRow_32 rfl (fun q7 => ?_) (fun q7 => ?_)
  · exact z_vret zemW rfl dX8_triesRow_75
  · refine z_aload_n 1 dX8_triesRow_35 rfl (z_getI zc8 17 (by decide) rfl gw1124 h0 dX8_triesRow_36 ?_)
    refine z_if_le 76 dX8_triesRow_39 rfl (fun q8 => ?_) (fun q8 => ?_)
    · refine z_sub (lv' := [(0, .ref a0)]) [1] rfl ?_
      refine z_pc (pc' := 76) rfl ?_
      exact m_X8_triesRow_j76 hW r5.2 a0 h0 
    · refine z_aload_n 1 dX8_triesRow_42 rfl (z_getI zc8 19 (by decide) rfl gw1126 h0 dX8_triesRow_43 (z_aload_n 1 dX8_triesRow_46 rfl (z_getI zc8 17 (by decide) rfl gw1124 h0 dX8_triesRow_47 ?_)))
      refine z_icmp_gt 75 dX8_triesRow_50 rfl (fun q15 => ?_) (fun q15 => ?_)
      · exact z_vret zemW rfl dX8_triesRow_75
      · refine z_aload_n 1 dX8_triesRow_53 rfl (z_getI zc8 19 (by decide) rfl gw1126 h0 dX8_triesRow_54 (z_aload_n 1 dX8_triesRow_57 rfl (z_getI zc8 17 (by decide) rfl gw1124 h0 dX8_triesRow_58 ?_)))
        refine z_icmp_ne 76 dX8_triesRow_61 rfl (fun q16 => ?_) (fun q16 => ?_)
        · refine z_sub (lv' := [(0, .ref a0)]) [1] rfl ?_
          refine z_pc (pc' := 76) rfl ?_
          exact m_X8_triesRow_j76 hW r5.2 a0 h0 
        · refine z_aload_n 1 dX8_triesRow_64 rfl (z_getI zc8 20 (by decide) rfl gw1127 h0 dX8_triesRow_65 (z_aload_n 1 dX8_triesRow_68 rfl (z_getI zc8 18 (by decide) rfl gw1125 h0 dX8_triesRow_69 ?_)))
          refine z_icmp_lt 76 dX8_triesRow_72 rfl (fun q17 => ?_) (fun q17 => ?_)
          · refine z_sub (lv' := [(0, .ref a0)]) [1] rfl ?_
            refine z_pc (pc' := 76) rfl ?_
            exact m_X8_triesRow_j76 hW r5.2 a0 h0 
          · exact z_vret zemW rfl dX8_triesRow_75

theorem m_X8_triesRow {E : ZE} {S : Zs} (hW : zWF S) (w : Zw) (a0 : Nat) (h0 : zObj S a0 8) : ∀ i, f_X8_triesRow S w a0 = some i → zMr E yX8_triesRow cX8_triesRow 3 none 11 0 0 [.ref a0] S w ((emW eU S) i) :=
  fun i hi => z_enter (by decide +kernel) (Nat.le_of_ble_eq_true rfl) (mw_X8_triesRow hW w a0 h0 i hi)
/-! ParkingRobotModel.tries (I)V : W, depth 20 -/
abbrev i_X8_tries : Zm := (yX8_tries.cls, cX8_tries, 5, none, [], yX8_tries.name)
def f_X8_tries_b15 (S : Zs) (self : (Int32 × Zw) → Option (Unit × Zw)) (w : Zw) (x0 : Nat) (x1 : Int32) (x2 : Int32) (k2 : (Int32 × Zw) → Option (Unit × Zw)) (k : (Int32 × Int32) → Option (Unit × Zw)) (x3 : Int32) (x4 : Int32) : Option (Unit × Zw) :=
  if x1 ≤ x4 then (if x3 = 0 then k2 ((x2 + (1 : Int32)), w) else if zin x2 (zlen S (zr S x0 13)) = true then if zin x1 (zlen S (zr S x0 14)) = true then zlet (zput w (zr S x0 14) (zix x1) (w (zr S x0 13) (zix x2))) fun w6 => if (w6 x0 16) ≤ (x1 + (1 : Int32)) then (f_X8_triesRow S w6 x0).bind fun r8 => k2 ((x2 + (1 : Int32)), r8.2) else (self ((x1 + (1 : Int32)), w6)).bind fun r10 => k2 ((x2 + (1 : Int32)), r10.2) else none else none) else if zin x4 (zlen S (zr S x0 14)) = true then if zin x2 (zlen S (zr S x0 13)) = true then if (w (zr S x0 14) (zix x4)) = (w (zr S x0 13) (zix x2)) then (zlet (x3 &&& (0 : Int32)) fun z15 => k (z15, (x4 + (1 : Int32)))) else (zlet (x3 &&& (1 : Int32)) fun z16 => k (z16, (x4 + (1 : Int32)))) else none else none
def f_X8_tries_l15 (S : Zs) (self : (Int32 × Zw) → Option (Unit × Zw)) (w : Zw) (x0 : Nat) (x1 : Int32) (x2 : Int32) (k2 : (Int32 × Zw) → Option (Unit × Zw)) (a : Int32 × Int32) : Option (Unit × Zw) :=
  zlp (fun k a => f_X8_tries_b15 S self w x0 x1 x2 k2 k a.1 a.2) zFU a
theorem m_X8_tries_l15 {E : ZE} {S : Zs} (hW : zWF S) (w : Zw) (x0 : Nat) (hx0 : zObj S x0 8) (x1 : Int32) (x2 : Int32) (self : (Int32 × Zw) → Option (Unit × Zw)) (n9 : Nat) (hself : ∀ (w : Zw) (x : Int32) (i : Unit × Zw), self (x, w) = some i → zMr E yX8_tries cX8_tries 5 none (12 + n9) 0 0 [.ref x0, .int x] S w (emW eU S i)) (k2 : (Int32 × Zw) → Option (Unit × Zw)) (hk2 : ∀ a : Int32 × Zw, zOk (E, i_X8_tries, (12 + (n9 + 1))) 0 0 S a.2 2 [(0, .ref x0), (1, .int x1), (2, .int a.1)] [] (emW eU S) (k2 a)) : ∀ a : Int32 × Int32, zOk (E, i_X8_tries, (12 + (n9 + 1))) 0 0 S w 15 [(0, .ref x0), (1, .int x1), (2, .int x2), (3, .int a.1), (4, .int a.2)] [] (emW eU S) (f_X8_tries_l15 S self w x0 x1 x2 k2 a) := by
  intro a
  refine z_lp (P := fun _ => True) (W9 := fun a : Int32 × Int32 => w) (L9 := fun a : Int32 × Int32 => [(0, .ref x0), (1, .int x1), (2, .int x2), (3, .int a.1), (4, .int a.2)]) (T9 := fun _ => []) (fun k hk9 a _ => ?_) zFU a trivial
  have hk : ∀ a : Int32 × Int32, zOk (E, i_X8_tries, (12 + (n9 + 1))) 0 0 S w 15 [(0, .ref x0), (1, .int x1), (2, .int x2), (3, .int a.1), (4, .int a.2)] [] (emW eU S) (k a) := fun a => hk9 a trivial
  clear hk9
  obtain ⟨x3, x4⟩ := a
  show zOk (E, i_X8_tries, (12 + (n9 + 1))) 0 0 S w 15 [(0, .ref x0), (1, .int x1), (2, .int x2), (3, .int x3), (4, .int x4)] [] (emW eU S) (f_X8_tries_b15 S self w x0 x1 x2 k2 k x3 x4)
  unfold f_X8_tries_b15
  refine z_iload 4 dX8_tries_15 rfl (z_iload_n 1 dX8_tries_17 rfl ?_)
  refine z_icmp_ge 51 dX8_tries_18 rfl (fun q2 => ?_) (fun q2 => ?_)
  · refine z_iload_n 3 dX8_tries_51 rfl ?_
    refine z_if_ne 58 dX8_tries_52 rfl (fun q3 => ?_) (fun q3 => ?_)
    · refine z_aload_n 0 dX8_tries_58 rfl (z_getR zc8 14 (by decide) rfl gw1121 hx0 (zW_some hW hx0 14 rfl) dX8_tries_59 (z_iload_n 1 dX8_tries_62 rfl (z_aload_n 0 dX8_tries_63 rfl (z_getR zc8 13 (by decide) rfl gw1120 hx0 (zW_some hW hx0 13 rfl) dX8_tries_64 (z_iload_n 2 dX8_tries_67 rfl ?_)))))
      refine z_chk (fun c4 => ?_)
      refine z_iald (zW_arr hW hx0 13 0 rfl) c4 dX8_tries_68 ?_
      refine z_chk (fun c5 => ?_)
      refine z_iast (zW_arr hW hx0 14 0 rfl) c5 dX8_tries_69 (z_letw (fun w6 => ?_))
      refine z_iload_n 1 dX8_tries_70 rfl (z_iconst dX8_tries_71 zi_1 (z_iadd dX8_tries_72 (z_aload_n 0 dX8_tries_73 rfl (z_getI zc8 16 (by decide) rfl gw1123 hx0 dX8_tries_74 ?_))))
      refine z_icmp_ge 90 dX8_tries_77 rfl (fun q7 => ?_) (fun q7 => ?_)
      · refine z_aload_n 0 dX8_tries_90 rfl ?_
        refine z_bind (fun r8 hb9 => ?_)
        refine z_callV (kc' := 0) (ks' := 0) (v := none) (S1 := S) (w1 := r8.2) (st := []) [] (m_X8_triesRow hW w6 x0 hx0 r8 hb9) zc8 hx0 zy_X8_triesRow gw1396 gp55 gw1394 (by show 11 + 1 ≤ (12 + (n9 + 1)); omega) (Nat.le_of_ble_eq_true rfl) (Nat.le_of_ble_eq_true rfl) (Nat.le_of_ble_eq_true rfl) (zal hW) rfl dX8_tries_91 (z_at 94 _ [] rfl rfl rfl ?_)
        refine z_iinc (v := (x2 + (1 : Int32))) (lv' := [(2, .int (x2 + (1 : Int32))), (0, .ref x0), (1, .int x1), (3, .int x3), (4, .int x4)]) 2 dX8_tries_94 rfl (zi_inc _ zi_1) (Nat.le_of_ble_eq_true rfl) rfl (z_goto 2 dX8_tries_97 rfl ?_)
        refine z_sub (lv' := [(0, .ref x0), (1, .int x1), (2, .int (x2 + (1 : Int32)))]) [1, 2, 0] rfl ?_
        refine z_pc (pc' := 2) rfl ?_
        exact hk2 ((x2 + (1 : Int32)), r8.2)
      · refine z_aload_n 0 dX8_tries_80 rfl (z_iload_n 1 dX8_tries_81 rfl (z_iconst dX8_tries_82 zi_1 (z_iadd dX8_tries_83 ?_)))
        refine z_bind (fun r10 hb11 => ?_)
        refine z_callV (kc' := 0) (ks' := 0) (v := none) (S1 := S) (w1 := r10.2) (st := []) [.int (x1 + (1 : Int32))] (hself w6 (x1 + (1 : Int32)) r10 hb11) zc8 hx0 zy_X8_tries gw1392 gp54 gw1390 (by show (12 + n9) + 1 ≤ (12 + (n9 + 1)); omega) (Nat.le_of_ble_eq_true rfl) (Nat.le_of_ble_eq_true rfl) (Nat.le_of_ble_eq_true rfl) (zal hW) rfl dX8_tries_84 (z_at 87 _ [] rfl rfl rfl ?_)
        refine z_goto 94 dX8_tries_87 rfl (z_iinc (v := (x2 + (1 : Int32))) (lv' := [(2, .int (x2 + (1 : Int32))), (0, .ref x0), (1, .int x1), (3, .int x3), (4, .int x4)]) 2 dX8_tries_94 rfl (zi_inc _ zi_1) (Nat.le_of_ble_eq_true rfl) rfl (z_goto 2 dX8_tries_97 rfl ?_))
        refine z_sub (lv' := [(0, .ref x0), (1, .int x1), (2, .int (x2 + (1 : Int32)))]) [1, 2, 0] rfl ?_
        refine z_pc (pc' := 2) rfl ?_
        exact hk2 ((x2 + (1 : Int32)), r10.2)
    · refine z_goto 94 dX8_tries_55 rfl (z_iinc (v := (x2 + (1 : Int32))) (lv' := [(2, .int (x2 + (1 : Int32))), (0, .ref x0), (1, .int x1), (3, .int x3), (4, .int x4)]) 2 dX8_tries_94 rfl (zi_inc _ zi_1) (Nat.le_of_ble_eq_true rfl) rfl (z_goto 2 dX8_tries_97 rfl ?_))
      refine z_sub (lv' := [(0, .ref x0), (1, .int x1), (2, .int (x2 + (1 : Int32)))]) [1, 2, 0] rfl ?_
      refine z_pc (pc' := 2) rfl ?_
      exact hk2 ((x2 + (1 : Int32)), w)
  · refine z_iload_n 3 dX8_tries_21 rfl (z_aload_n 0 dX8_tries_22 rfl (z_getR zc8 14 (by decide) rfl gw1121 hx0 (zW_some hW hx0 14 rfl) dX8_tries_23 (z_iload 4 dX8_tries_26 rfl ?_)))
    refine z_chk (fun c12 => ?_)
    refine z_iald (zW_arr hW hx0 14 0 rfl) c12 dX8_tries_28 (z_aload_n 0 dX8_tries_29 rfl (z_getR zc8 13 (by decide) rfl gw1120 hx0 (zW_some hW hx0 13 rfl) dX8_tries_30 (z_iload_n 2 dX8_tries_33 rfl ?_)))
    refine z_chk (fun c13 => ?_)
    refine z_iald (zW_arr hW hx0 13 0 rfl) c13 dX8_tries_34 ?_
    refine z_icmp_eq 42 dX8_tries_35 rfl (fun q14 => ?_) (fun q14 => ?_)
    · refine z_iconst dX8_tries_42 zi_0 (z_iand dX8_tries_43 ?_)
      refine z_let (a := (x3 &&& (0 : Int32))) (fun z15 => [(0, .ref x0), (1, .int x1), (2, .int x2), (3, .int x3), (4, .int x4)]) (fun z15 => .int z15 :: []) (fun z15 => ?_)
      refine z_istore_n (lv' := [(3, .int z15), (0, .ref x0), (1, .int x1), (2, .int x2), (4, .int x4)]) dX8_tries_44 (Nat.le_of_ble_eq_true rfl) rfl (z_iinc (v := (x4 + (1 : Int32))) (lv' := [(4, .int (x4 + (1 : Int32))), (3, .int z15), (0, .ref x0), (1, .int x1), (2, .int x2)]) 4 dX8_tries_45 rfl (zi_inc _ zi_1) (Nat.le_of_ble_eq_true rfl) rfl (z_goto 15 dX8_tries_48 rfl ?_))
      refine z_sub (lv' := [(0, .ref x0), (1, .int x1), (2, .int x2), (3, .int z15), (4, .int (x4 + (1 : Int32)))]) [2, 3, 4, 1, 0] rfl ?_
      refine z_pc (pc' := 15) rfl ?_
      exact hk (z15, (x4 + (1 : Int32)))
    · refine z_iconst dX8_tries_38 zi_1 (z_goto 43 dX8_tries_39 rfl (z_iand dX8_tries_43 ?_))
      refine z_let (a := (x3 &&& (1 : Int32))) (fun z16 => [(0, .ref x0), (1, .int x1), (2, .int x2), (3, .int x3), (4, .int x4)]) (fun z16 => .int z16 :: []) (fun z16 => ?_)
      refine z_istore_n (lv' := [(3, .int z16), (0, .ref x0), (1, .int x1), (2, .int x2), (4, .int x4)]) dX8_tries_44 (Nat.le_of_ble_eq_true rfl) rfl (z_iinc (v := (x4 + (1 : Int32))) (lv' := [(4, .int (x4 + (1 : Int32))), (3, .int z16), (0, .ref x0), (1, .int x1), (2, .int x2)]) 4 dX8_tries_45 rfl (zi_inc _ zi_1) (Nat.le_of_ble_eq_true rfl) rfl (z_goto 15 dX8_tries_48 rfl ?_))
      refine z_sub (lv' := [(0, .ref x0), (1, .int x1), (2, .int x2), (3, .int z16), (4, .int (x4 + (1 : Int32)))]) [2, 3, 4, 1, 0] rfl ?_
      refine z_pc (pc' := 15) rfl ?_
      exact hk (z16, (x4 + (1 : Int32)))

def f_X8_tries_b2 (S : Zs) (self : (Int32 × Zw) → Option (Unit × Zw)) (x0 : Nat) (x1 : Int32) (k : (Int32 × Zw) → Option (Unit × Zw)) (x2 : Int32) (w : Zw) : Option (Unit × Zw) :=
  if (w x0 16) ≤ x2 then some ((), w) else f_X8_tries_l15 S self w x0 x1 x2 k ((1 : Int32), (0 : Int32))
def f_X8_tries_l2 (S : Zs) (self : (Int32 × Zw) → Option (Unit × Zw)) (x0 : Nat) (x1 : Int32) (a : Int32 × Zw) : Option (Unit × Zw) :=
  zlp (fun k a => f_X8_tries_b2 S self x0 x1 k a.1 a.2) zFU a
theorem m_X8_tries_l2 {E : ZE} {S : Zs} (hW : zWF S) (x0 : Nat) (hx0 : zObj S x0 8) (x1 : Int32) (self : (Int32 × Zw) → Option (Unit × Zw)) (n9 : Nat) (hself : ∀ (w : Zw) (x : Int32) (i : Unit × Zw), self (x, w) = some i → zMr E yX8_tries cX8_tries 5 none (12 + n9) 0 0 [.ref x0, .int x] S w (emW eU S i)) : ∀ a : Int32 × Zw, zOk (E, i_X8_tries, (12 + (n9 + 1))) 0 0 S a.2 2 [(0, .ref x0), (1, .int x1), (2, .int a.1)] [] (emW eU S) (f_X8_tries_l2 S self x0 x1 a) := by
  intro a
  refine z_lp (P := fun _ => True) (W9 := fun a : Int32 × Zw => a.2) (L9 := fun a : Int32 × Zw => [(0, .ref x0), (1, .int x1), (2, .int a.1)]) (T9 := fun _ => []) (fun k hk9 a _ => ?_) zFU a trivial
  have hk : ∀ a : Int32 × Zw, zOk (E, i_X8_tries, (12 + (n9 + 1))) 0 0 S a.2 2 [(0, .ref x0), (1, .int x1), (2, .int a.1)] [] (emW eU S) (k a) := fun a => hk9 a trivial
  clear hk9
  obtain ⟨x2, w⟩ := a
  show zOk (E, i_X8_tries, (12 + (n9 + 1))) 0 0 S w 2 [(0, .ref x0), (1, .int x1), (2, .int x2)] [] (emW eU S) (f_X8_tries_b2 S self x0 x1 k x2 w)
  unfold f_X8_tries_b2
  refine z_iload_n 2 dX8_tries_2 rfl (z_aload_n 0 dX8_tries_3 rfl (z_getI zc8 16 (by decide) rfl gw1123 hx0 dX8_tries_4 ?_))
  refine z_icmp_ge 100 dX8_tries_7 rfl (fun q1 => ?_) (fun q1 => ?_)
  · exact z_vret zemW rfl dX8_tries_100
  · refine z_iconst dX8_tries_10 zi_1 (z_istore_n (lv' := [(3, .int (1 : Int32)), (0, .ref x0), (1, .int x1), (2, .int x2)]) dX8_tries_11 (Nat.le_of_ble_eq_true rfl) rfl (z_iconst dX8_tries_12 zi_0 (z_istore (lv' := [(4, .int (0 : Int32)), (3, .int (1 : Int32)), (0, .ref x0), (1, .int x1), (2, .int x2)]) dX8_tries_13 (Nat.le_of_ble_eq_true rfl) rfl ?_)))
    refine z_sub (lv' := [(0, .ref x0), (1, .int x1), (2, .int x2), (3, .int (1 : Int32)), (4, .int (0 : Int32))]) [2, 3, 4, 1, 0] rfl ?_
    refine z_pc (pc' := 15) rfl ?_
    exact m_X8_tries_l15 hW w x0 hx0 x1 x2 self n9 hself k hk ((1 : Int32), (0 : Int32))

def f_X8_tries_F (S : Zs) (self : (Int32 × Zw) → Option (Unit × Zw)) (w : Zw) (a0 : Nat) (a1 : Int32) : Option (Unit × Zw) :=
  f_X8_tries_l2 S self a0 a1 ((0 : Int32), w)
theorem mw_X8_tries {E : ZE} {S : Zs} (hW : zWF S) (w : Zw) (a0 : Nat) (h0 : zObj S a0 8) (a1 : Int32) (self : (Int32 × Zw) → Option (Unit × Zw)) (n9 : Nat) (hself : ∀ (w : Zw) (x : Int32) (i : Unit × Zw), self (x, w) = some i → zMr E yX8_tries cX8_tries 5 none (12 + n9) 0 0 [.ref a0, .int x] S w (emW eU S i)) : zOk (E, i_X8_tries, (12 + (n9 + 1))) 0 0 S w 0 [(0, .ref a0), (1, .int a1)] [] (emW eU S) (f_X8_tries_F S self w a0 a1) := by
  unfold f_X8_tries_F
  refine z_iconst dX8_tries_0 zi_0 (z_istore_n (lv' := [(2, .int (0 : Int32)), (0, .ref a0), (1, .int a1)]) dX8_tries_1 (Nat.le_of_ble_eq_true rfl) rfl ?_)
  refine z_sub (lv' := [(0, .ref a0), (1, .int a1), (2, .int (0 : Int32))]) [1, 2, 0] rfl ?_
  refine z_pc (pc' := 2) rfl ?_
  exact m_X8_tries_l2 hW a0 h0 a1 self n9 hself ((0 : Int32), w)

theorem mF_X8_tries {E : ZE} {S : Zs} (hW : zWF S) (w : Zw) (a0 : Nat) (h0 : zObj S a0 8) (a1 : Int32) (self : (Int32 × Zw) → Option (Unit × Zw)) (n9 : Nat) (hself : ∀ (w : Zw) (x : Int32) (i : Unit × Zw), self (x, w) = some i → zMr E yX8_tries cX8_tries 5 none (12 + n9) 0 0 [.ref a0, .int x] S w (emW eU S i)) : ∀ i, f_X8_tries_F S self w a0 a1 = some i → zMr E yX8_tries cX8_tries 5 none (12 + (n9 + 1)) 0 0 [.ref a0, .int a1] S w ((emW eU S) i) :=
  fun i hi => z_enter (by decide +kernel) (Nat.le_of_ble_eq_true rfl) (mw_X8_tries hW w a0 h0 a1 self n9 hself i hi)
def f_X8_tries (S : Zs) (w : Zw) (a0 : Nat) (a1 : Int32) : Option (Unit × Zw) := zlp (fun self a => f_X8_tries_F S self a.2 a0 a.1) 8 (a1, w)
theorem mn_X8_tries {E : ZE} {S : Zs} (hW : zWF S) (a0 : Nat) (h0 : zObj S a0 8) (n9 : Nat) : ∀ (w : Zw) (x : Int32) (i : Unit × Zw), zlp (fun self (a : Int32 × Zw) => f_X8_tries_F S self a.2 a0 a.1) n9 (x, w) = some i → zMr E yX8_tries cX8_tries 5 none (12 + n9) 0 0 [.ref a0, .int x] S w (emW eU S i) := by
  induction n9 with
  | zero => intro w x i h; cases h
  | succ n9 ih => exact fun w x i h => mF_X8_tries hW w a0 h0 x _ n9 ih i h
theorem m_X8_tries {E : ZE} {S : Zs} (hW : zWF S) (w : Zw) (a0 : Nat) (h0 : zObj S a0 8) (a1 : Int32) : ∀ i, f_X8_tries S w a0 a1 = some i → zMr E yX8_tries cX8_tries 5 none 20 0 0 [.ref a0, .int a1] S w (emW eU S i) := fun i h => mn_X8_tries hW a0 h0 8 w a1 i h
/-! ParkingRobotModel.isFound ()Z : W, depth 21 -/
abbrev i_X8_isFound : Zm := (yX8_isFound.cls, cX8_isFound, 1, (some .boolean), [], yX8_isFound.name)
def f_X8_isFound (S : Zs) (w : Zw) (a0 : Nat) : Option (Int32 × Zw) :=
  zlet (zput w a0 17 (0 : Int32)) fun w1 => (f_X8_tries S w1 a0 (0 : Int32)).bind fun r2 => if (r2.2 a0 17) ≤ 0 then some ((0 : Int32), r2.2) else some ((1 : Int32), r2.2)
theorem mw_X8_isFound {E : ZE} {S : Zs} (hW : zWF S) (w : Zw) (a0 : Nat) (h0 : zObj S a0 8) : zOk (E, i_X8_isFound, 21) 0 0 S w 0 [(0, .ref a0)] [] (emW eI S) (f_X8_isFound S w a0) := by
  unfold f_X8_isFound
  refine z_aload_n 0 dX8_isFound_0 rfl (z_iconst dX8_isFound_1 zi_0 ?_)
  refine z_putI zc8 17 (by decide) (Or.inl rfl) rfl gw1124 h0 dX8_isFound_2 (z_letw (fun w1 => ?_))
  refine z_aload_n 0 dX8_isFound_5 rfl (z_iconst dX8_isFound_6 zi_0 ?_)
  refine z_bind (fun r2 hb3 => ?_)
  refine z_callV (kc' := 0) (ks' := 0) (v := none) (S1 := S) (w1 := r2.2) (st := []) [.int (0 : Int32)] (m_X8_tries hW w1 a0 h0 (0 : Int32) r2 hb3) zc8 h0 zy_X8_tries gw1392 gp54 gw1390 (Nat.le_of_ble_eq_true rfl) (Nat.le_of_ble_eq_true rfl) (Nat.le_of_ble_eq_true rfl) (Nat.le_of_ble_eq_true rfl) (zal hW) rfl dX8_isFound_7 (z_at 10 _ [] rfl rfl rfl ?_)
  refine z_aload_n 0 dX8_isFound_10 rfl (z_getI zc8 17 (by decide) rfl gw1124 h0 dX8_isFound_11 ?_)
  refine z_if_le 21 dX8_isFound_14 rfl (fun q4 => ?_) (fun q4 => ?_)
  · refine z_iconst dX8_isFound_21 zi_0 ?_
    exact z_zret zemW rfl rfl dX8_isFound_22
  · refine z_iconst dX8_isFound_17 zi_1 (z_goto 22 dX8_isFound_18 rfl ?_)
    exact z_zret zemW rfl rfl dX8_isFound_22

theorem m_X8_isFound {E : ZE} {S : Zs} (hW : zWF S) (w : Zw) (a0 : Nat) (h0 : zObj S a0 8) : ∀ i, f_X8_isFound S w a0 = some i → zMr E yX8_isFound cX8_isFound 1 ((some .boolean)) 21 0 0 [.ref a0] S w ((emW eI S) i) :=
  fun i hi => z_enter (by decide +kernel) (Nat.le_of_ble_eq_true rfl) (mw_X8_isFound hW w a0 h0 i hi)
/-! ParkingRobotModel.bestCar (JI)I : W, depth 22 -/
abbrev i_X8_bestCar : Zm := (yX8_bestCar.cls, cX8_bestCar, 4, (some .int), [], yX8_bestCar.name)
def f_X8_bestCar (S : Zs) (w : Zw) (a0 : Nat) (a1 : Int64) (a2 : Int32) : Option (Int32 × Zw) :=
  (f_X8_isSet S w a0 a1).bind fun r1 => if r1.1 = 0 then some ((0 : Int32), r1.2) else (f_X8_in a2 (0 : Int32) ((r1.2 a0 16) - (1 : Int32))).bind fun v4 => if v4 = 0 then (f_X8_fails S r1.2 a0 (2 : Int32)).bind fun r13 => some (r13.1, r13.2) else (f_X8_isFound S r1.2 a0).bind fun r7 => if r7.1 = 0 then (f_X8_fails S r7.2 a0 (3 : Int32)).bind fun r10 => some (r10.1, r10.2) else if zin a2 (zlen S (zr S a0 15)) = true then some ((r7.2 (zr S a0 15) (zix a2)), r7.2) else none
theorem mw_X8_bestCar {E : ZE} {S : Zs} (hW : zWF S) (w : Zw) (a0 : Nat) (h0 : zObj S a0 8) (a1 : Int64) (a2 : Int32) : zOk (E, i_X8_bestCar, 22) 0 0 S w 0 [(0, .ref a0), (1, .long a1), (3, .int a2)] [] (emW eI S) (f_X8_bestCar S w a0 a1 a2) := by
  unfold f_X8_bestCar
  refine z_aload_n 0 dX8_bestCar_0 rfl (z_lload_n 1 dX8_bestCar_1 rfl ?_)
  refine z_bind (fun r1 hb2 => ?_)
  refine z_callV (kc' := 0) (ks' := 0) (v := (some (.int r1.1))) (S1 := S) (w1 := r1.2) (st := []) [.long a1] (m_X8_isSet hW w a0 h0 a1 r1 hb2) zc8 h0 zy_X8_isSet gw1383 gp52 gw1381 (Nat.le_of_ble_eq_true rfl) (Nat.le_of_ble_eq_true rfl) (Nat.le_of_ble_eq_true rfl) (Nat.le_of_ble_eq_true rfl) (zal hW) rfl dX8_bestCar_2 (z_at 5 _ [.int r1.1] rfl rfl rfl ?_)
  refine z_if_ne 10 dX8_bestCar_5 rfl (fun q3 => ?_) (fun q3 => ?_)
  · refine z_iload_n 2 dX8_bestCar_10 rfl (z_iconst dX8_bestCar_11 zi_0 (z_aload_n 0 dX8_bestCar_12 rfl (z_getI zc8 16 (by decide) rfl gw1123 h0 dX8_bestCar_13 (z_iconst dX8_bestCar_16 zi_1 (z_isub dX8_bestCar_17 ?_)))))
    refine z_bind (fun v4 hb5 => ?_)
    refine z_callS (kc' := 0) (ks' := 0) (v := (some (.int v4))) (S1 := S) (w1 := r1.2) (st := []) [.int a2, .int (0 : Int32), .int ((r1.2 a0 16) - (1 : Int32))] (m_X8_in hW r1.2 a2 (0 : Int32) ((r1.2 a0 16) - (1 : Int32)) v4 hb5) zy_X8_in gw1208 gw1207 (Nat.le_of_ble_eq_true rfl) (Nat.le_of_ble_eq_true rfl) (Nat.le_of_ble_eq_true rfl) (Nat.le_of_ble_eq_true rfl) (zal hW) rfl dX8_bestCar_18 (z_at 21 _ [.int v4] rfl rfl rfl ?_)
    refine z_if_ne 30 dX8_bestCar_21 rfl (fun q6 => ?_) (fun q6 => ?_)
    · refine z_aload_n 0 dX8_bestCar_30 rfl ?_
      refine z_bind (fun r7 hb8 => ?_)
      refine z_callV (kc' := 0) (ks' := 0) (v := (some (.int r7.1))) (S1 := S) (w1 := r7.2) (st := []) [] (m_X8_isFound hW r1.2 a0 h0 r7 hb8) zc8 h0 zy_X8_isFound gw1388 gp53 gw1386 (Nat.le_of_ble_eq_true rfl) (Nat.le_of_ble_eq_true rfl) (Nat.le_of_ble_eq_true rfl) (Nat.le_of_ble_eq_true rfl) (zal hW) rfl dX8_bestCar_31 (z_at 34 _ [.int r7.1] rfl rfl rfl ?_)
      refine z_if_eq 46 dX8_bestCar_34 rfl (fun q9 => ?_) (fun q9 => ?_)
      · refine z_aload_n 0 dX8_bestCar_46 rfl (z_iconst dX8_bestCar_47 zi_3 ?_)
        refine z_bind (fun r10 hb11 => ?_)
        refine z_callV (kc' := 0) (ks' := 0) (v := (some (.int r10.1))) (S1 := S) (w1 := r10.2) (st := []) [.int (3 : Int32)] (m_X8_fails hW r7.2 a0 h0 (3 : Int32) r10 hb11) zc8 h0 zy_X8_fails gw1215 gp27 gw1213 (Nat.le_of_ble_eq_true rfl) (Nat.le_of_ble_eq_true rfl) (Nat.le_of_ble_eq_true rfl) (Nat.le_of_ble_eq_true rfl) (zal hW) rfl dX8_bestCar_48 (z_at 51 _ [.int r10.1] rfl rfl rfl ?_)
        exact z_iret zemW rfl dX8_bestCar_51
      · refine z_aload_n 0 dX8_bestCar_37 rfl (z_getR zc8 15 (by decide) rfl gw1122 h0 (zW_some hW h0 15 rfl) dX8_bestCar_38 (z_iload_n 2 dX8_bestCar_41 rfl ?_))
        refine z_chk (fun c12 => ?_)
        refine z_iald (zW_arr hW h0 15 0 rfl) c12 dX8_bestCar_42 (z_goto 51 dX8_bestCar_43 rfl ?_)
        exact z_iret zemW rfl dX8_bestCar_51
    · refine z_aload_n 0 dX8_bestCar_24 rfl (z_iconst dX8_bestCar_25 zi_2 ?_)
      refine z_bind (fun r13 hb14 => ?_)
      refine z_callV (kc' := 0) (ks' := 0) (v := (some (.int r13.1))) (S1 := S) (w1 := r13.2) (st := []) [.int (2 : Int32)] (m_X8_fails hW r1.2 a0 h0 (2 : Int32) r13 hb14) zc8 h0 zy_X8_fails gw1215 gp27 gw1213 (Nat.le_of_ble_eq_true rfl) (Nat.le_of_ble_eq_true rfl) (Nat.le_of_ble_eq_true rfl) (Nat.le_of_ble_eq_true rfl) (zal hW) rfl dX8_bestCar_26 (z_at 29 _ [.int r13.1] rfl rfl rfl ?_)
      exact z_iret zemW rfl dX8_bestCar_29
  · refine z_iconst dX8_bestCar_8 zi_0 ?_
    exact z_iret zemW rfl dX8_bestCar_9

theorem m_X8_bestCar {E : ZE} {S : Zs} (hW : zWF S) (w : Zw) (a0 : Nat) (h0 : zObj S a0 8) (a1 : Int64) (a2 : Int32) : ∀ i, f_X8_bestCar S w a0 a1 a2 = some i → zMr E yX8_bestCar cX8_bestCar 4 ((some .int)) 22 0 0 [.ref a0, .long a1, .int a2] S w ((emW eI S) i) :=
  fun i hi => z_enter (by decide +kernel) (Nat.le_of_ble_eq_true rfl) (mw_X8_bestCar hW w a0 h0 a1 a2 i hi)
/-! ParkingRobotModel.bestEnd (J)I : W, depth 22 -/
abbrev i_X8_bestEnd : Zm := (yX8_bestEnd.cls, cX8_bestEnd, 3, (some .int), [], yX8_bestEnd.name)
def f_X8_bestEnd (S : Zs) (w : Zw) (a0 : Nat) (a1 : Int64) : Option (Int32 × Zw) :=
  (f_X8_isSet S w a0 a1).bind fun r1 => if r1.1 = 0 then some ((0 : Int32), r1.2) else (f_X8_isFound S r1.2 a0).bind fun r4 => if r4.1 = 0 then (f_X8_fails S r4.2 a0 (3 : Int32)).bind fun r7 => some (r7.1, r7.2) else some ((r4.2 a0 18), r4.2)
theorem mw_X8_bestEnd {E : ZE} {S : Zs} (hW : zWF S) (w : Zw) (a0 : Nat) (h0 : zObj S a0 8) (a1 : Int64) : zOk (E, i_X8_bestEnd, 22) 0 0 S w 0 [(0, .ref a0), (1, .long a1)] [] (emW eI S) (f_X8_bestEnd S w a0 a1) := by
  unfold f_X8_bestEnd
  refine z_aload_n 0 dX8_bestEnd_0 rfl (z_lload_n 1 dX8_bestEnd_1 rfl ?_)
  refine z_bind (fun r1 hb2 => ?_)
  refine z_callV (kc' := 0) (ks' := 0) (v := (some (.int r1.1))) (S1 := S) (w1 := r1.2) (st := []) [.long a1] (m_X8_isSet hW w a0 h0 a1 r1 hb2) zc8 h0 zy_X8_isSet gw1383 gp52 gw1381 (Nat.le_of_ble_eq_true rfl) (Nat.le_of_ble_eq_true rfl) (Nat.le_of_ble_eq_true rfl) (Nat.le_of_ble_eq_true rfl) (zal hW) rfl dX8_bestEnd_2 (z_at 5 _ [.int r1.1] rfl rfl rfl ?_)
  refine z_if_ne 10 dX8_bestEnd_5 rfl (fun q3 => ?_) (fun q3 => ?_)
  · refine z_aload_n 0 dX8_bestEnd_10 rfl ?_
    refine z_bind (fun r4 hb5 => ?_)
    refine z_callV (kc' := 0) (ks' := 0) (v := (some (.int r4.1))) (S1 := S) (w1 := r4.2) (st := []) [] (m_X8_isFound hW r1.2 a0 h0 r4 hb5) zc8 h0 zy_X8_isFound gw1388 gp53 gw1386 (Nat.le_of_ble_eq_true rfl) (Nat.le_of_ble_eq_true rfl) (Nat.le_of_ble_eq_true rfl) (Nat.le_of_ble_eq_true rfl) (zal hW) rfl dX8_bestEnd_11 (z_at 14 _ [.int r4.1] rfl rfl rfl ?_)
    refine z_if_eq 24 dX8_bestEnd_14 rfl (fun q6 => ?_) (fun q6 => ?_)
    · refine z_aload_n 0 dX8_bestEnd_24 rfl (z_iconst dX8_bestEnd_25 zi_3 ?_)
      refine z_bind (fun r7 hb8 => ?_)
      refine z_callV (kc' := 0) (ks' := 0) (v := (some (.int r7.1))) (S1 := S) (w1 := r7.2) (st := []) [.int (3 : Int32)] (m_X8_fails hW r4.2 a0 h0 (3 : Int32) r7 hb8) zc8 h0 zy_X8_fails gw1215 gp27 gw1213 (Nat.le_of_ble_eq_true rfl) (Nat.le_of_ble_eq_true rfl) (Nat.le_of_ble_eq_true rfl) (Nat.le_of_ble_eq_true rfl) (zal hW) rfl dX8_bestEnd_26 (z_at 29 _ [.int r7.1] rfl rfl rfl ?_)
      exact z_iret zemW rfl dX8_bestEnd_29
    · refine z_aload_n 0 dX8_bestEnd_17 rfl (z_getI zc8 18 (by decide) rfl gw1125 h0 dX8_bestEnd_18 (z_goto 29 dX8_bestEnd_21 rfl ?_))
      exact z_iret zemW rfl dX8_bestEnd_29
  · refine z_iconst dX8_bestEnd_8 zi_0 ?_
    exact z_iret zemW rfl dX8_bestEnd_9

theorem m_X8_bestEnd {E : ZE} {S : Zs} (hW : zWF S) (w : Zw) (a0 : Nat) (h0 : zObj S a0 8) (a1 : Int64) : ∀ i, f_X8_bestEnd S w a0 a1 = some i → zMr E yX8_bestEnd cX8_bestEnd 3 ((some .int)) 22 0 0 [.ref a0, .long a1] S w ((emW eI S) i) :=
  fun i hi => z_enter (by decide +kernel) (Nat.le_of_ble_eq_true rfl) (mw_X8_bestEnd hW w a0 h0 a1 i hi)
/-! ParkingRobotModel.bestMoves (J)I : W, depth 22 -/
abbrev i_X8_bestMoves : Zm := (yX8_bestMoves.cls, cX8_bestMoves, 3, (some .int), [], yX8_bestMoves.name)
def f_X8_bestMoves (S : Zs) (w : Zw) (a0 : Nat) (a1 : Int64) : Option (Int32 × Zw) :=
  (f_X8_isSet S w a0 a1).bind fun r1 => if r1.1 = 0 then some ((0 : Int32), r1.2) else (f_X8_isFound S r1.2 a0).bind fun r4 => if r4.1 = 0 then (f_X8_fails S r4.2 a0 (3 : Int32)).bind fun r7 => some (r7.1, r7.2) else some ((r4.2 a0 17), r4.2)
theorem mw_X8_bestMoves {E : ZE} {S : Zs} (hW : zWF S) (w : Zw) (a0 : Nat) (h0 : zObj S a0 8) (a1 : Int64) : zOk (E, i_X8_bestMoves, 22) 0 0 S w 0 [(0, .ref a0), (1, .long a1)] [] (emW eI S) (f_X8_bestMoves S w a0 a1) := by
  unfold f_X8_bestMoves
  refine z_aload_n 0 dX8_bestMoves_0 rfl (z_lload_n 1 dX8_bestMoves_1 rfl ?_)
  refine z_bind (fun r1 hb2 => ?_)
  refine z_callV (kc' := 0) (ks' := 0) (v := (some (.int r1.1))) (S1 := S) (w1 := r1.2) (st := []) [.long a1] (m_X8_isSet hW w a0 h0 a1 r1 hb2) zc8 h0 zy_X8_isSet gw1383 gp52 gw1381 (Nat.le_of_ble_eq_true rfl) (Nat.le_of_ble_eq_true rfl) (Nat.le_of_ble_eq_true rfl) (Nat.le_of_ble_eq_true rfl) (zal hW) rfl dX8_bestMoves_2 (z_at 5 _ [.int r1.1] rfl rfl rfl ?_)
  refine z_if_ne 10 dX8_bestMoves_5 rfl (fun q3 => ?_) (fun q3 => ?_)
  · refine z_aload_n 0 dX8_bestMoves_10 rfl ?_
    refine z_bind (fun r4 hb5 => ?_)
    refine z_callV (kc' := 0) (ks' := 0) (v := (some (.int r4.1))) (S1 := S) (w1 := r4.2) (st := []) [] (m_X8_isFound hW r1.2 a0 h0 r4 hb5) zc8 h0 zy_X8_isFound gw1388 gp53 gw1386 (Nat.le_of_ble_eq_true rfl) (Nat.le_of_ble_eq_true rfl) (Nat.le_of_ble_eq_true rfl) (Nat.le_of_ble_eq_true rfl) (zal hW) rfl dX8_bestMoves_11 (z_at 14 _ [.int r4.1] rfl rfl rfl ?_)
    refine z_if_eq 24 dX8_bestMoves_14 rfl (fun q6 => ?_) (fun q6 => ?_)
    · refine z_aload_n 0 dX8_bestMoves_24 rfl (z_iconst dX8_bestMoves_25 zi_3 ?_)
      refine z_bind (fun r7 hb8 => ?_)
      refine z_callV (kc' := 0) (ks' := 0) (v := (some (.int r7.1))) (S1 := S) (w1 := r7.2) (st := []) [.int (3 : Int32)] (m_X8_fails hW r4.2 a0 h0 (3 : Int32) r7 hb8) zc8 h0 zy_X8_fails gw1215 gp27 gw1213 (Nat.le_of_ble_eq_true rfl) (Nat.le_of_ble_eq_true rfl) (Nat.le_of_ble_eq_true rfl) (Nat.le_of_ble_eq_true rfl) (zal hW) rfl dX8_bestMoves_26 (z_at 29 _ [.int r7.1] rfl rfl rfl ?_)
      exact z_iret zemW rfl dX8_bestMoves_29
    · refine z_aload_n 0 dX8_bestMoves_17 rfl (z_getI zc8 17 (by decide) rfl gw1124 h0 dX8_bestMoves_18 (z_goto 29 dX8_bestMoves_21 rfl ?_))
      exact z_iret zemW rfl dX8_bestMoves_29
  · refine z_iconst dX8_bestMoves_8 zi_0 ?_
    exact z_iret zemW rfl dX8_bestMoves_9

theorem m_X8_bestMoves {E : ZE} {S : Zs} (hW : zWF S) (w : Zw) (a0 : Nat) (h0 : zObj S a0 8) (a1 : Int64) : ∀ i, f_X8_bestMoves S w a0 a1 = some i → zMr E yX8_bestMoves cX8_bestMoves 3 ((some .int)) 22 0 0 [.ref a0, .long a1] S w ((emW eI S) i) :=
  fun i hi => z_enter (by decide +kernel) (Nat.le_of_ble_eq_true rfl) (mw_X8_bestMoves hW w a0 h0 a1 i hi)
/-! ParkingRobotModel.isPickup (I)Z : P, depth 1 -/
abbrev i_X8_isPickup : Zm := (yX8_isPickup.cls, cX8_isPickup, 1, (some .boolean), [], yX8_isPickup.name)
def f_X8_isPickup (a0 : Int32) : Option (Int32) :=
  (f_X8_in a0 (0 : Int32) (9999 : Int32)).bind fun v1 => if zb1 v1 = true then some v1 else none
theorem mw_X8_isPickup {E : ZE} {S : Zs} (hW : zWF S) (w : Zw) (a0 : Int32) : zOk (E, i_X8_isPickup, 1) 0 0 S w 0 [(0, .int a0)] [] (emP eI S w) (f_X8_isPickup a0) := by
  unfold f_X8_isPickup
  refine z_iload_n 0 dX8_isPickup_0 rfl (z_iconst dX8_isPickup_1 zi_0 (z_sipush dX8_isPickup_2 zs_9999 ?_))
  refine z_bind (fun v1 hb2 => ?_)
  refine z_callS (kc' := 0) (ks' := 0) (v := (some (.int v1))) (S1 := S) (w1 := w) (st := []) [.int a0, .int (0 : Int32), .int (9999 : Int32)] (m_X8_in hW w a0 (0 : Int32) (9999 : Int32) v1 hb2) zy_X8_in gw1208 gw1207 (Nat.le_of_ble_eq_true rfl) (Nat.le_of_ble_eq_true rfl) (Nat.le_of_ble_eq_true rfl) (Nat.le_of_ble_eq_true rfl) (zal hW) rfl dX8_isPickup_5 (z_at 8 _ [.int v1] rfl rfl rfl ?_)
  refine z_chk (fun c3 => ?_)
  exact z_zret zemP rfl (zb1_nar c3) dX8_isPickup_8

theorem m_X8_isPickup {E : ZE} {S : Zs} (hW : zWF S) (w : Zw) (a0 : Int32) : ∀ i, f_X8_isPickup a0 = some i → zMr E yX8_isPickup cX8_isPickup 1 ((some .boolean)) 1 0 0 [.int a0] S w ((emP eI S w) i) :=
  fun i hi => z_enter (by decide +kernel) (Nat.le_of_ble_eq_true rfl) (mw_X8_isPickup hW w a0 i hi)
/-! ParkingRobotModel.ends (I)I : W, depth 1 -/
abbrev i_X8_ends : Zm := (yX8_ends.cls, cX8_ends, 3, (some .int), [], yX8_ends.name)
def f_X8_ends_j65 (S : Zs) (w : Zw) (x0 : Nat) (x1 : Int32) : Option (Int32 × Zw) :=
  (f_X8_copies S w (zr S x0 2) (0 : Int32) (zr S x0 5) ((399 : Int32) * (w x0 6))).bind fun r3 => zlet (zput r3.2 x0 6 ((r3.2 x0 6) + (1 : Int32))) fun w5 => some (x1, w5)
theorem m_X8_ends_j65 {E : ZE} {S : Zs} (hW : zWF S) (w : Zw) (x0 : Nat) (hx0 : zObj S x0 8) (x1 : Int32) : zOk (E, i_X8_ends, 1) 0 0 S w 65 [(0, .ref x0), (1, .int x1)] [] (emW eI S) (f_X8_ends_j65 S w x0 x1) := by
  unfold f_X8_ends_j65
  refine z_aload_n 0 dX8_ends_65 rfl (z_getR zc8 2 (by decide) rfl gw1109 hx0 (zW_some hW hx0 2 rfl) dX8_ends_66 (z_iconst dX8_ends_69 zi_0 (z_aload_n 0 dX8_ends_70 rfl (z_getR zc8 5 (by decide) rfl gw1112 hx0 (zW_some hW hx0 5 rfl) dX8_ends_71 (z_sipush dX8_ends_74 zs_399 ?_)))))
  refine z_aload_n 0 dX8_ends_77 rfl (z_getI zc8 6 (by decide) rfl gw1113 hx0 dX8_ends_78 (z_imul dX8_ends_81 ?_))
  refine z_bind (fun r3 hb4 => ?_)
  refine z_callS (kc' := 0) (ks' := 0) (v := none) (S1 := S) (w1 := r3.2) (st := []) [.ref (zr S x0 2), .int (0 : Int32), .ref (zr S x0 5), .int ((399 : Int32) * (w x0 6))] (m_X8_copies hW w (zr S x0 2) (zW_arr hW hx0 2 0 rfl) (0 : Int32) (zr S x0 5) (zW_arr hW hx0 5 0 rfl) ((399 : Int32) * (w x0 6)) r3 hb4) zy_X8_copies gw1198 gw1197 (Nat.le_of_ble_eq_true rfl) (Nat.le_of_ble_eq_true rfl) (Nat.le_of_ble_eq_true rfl) (Nat.le_of_ble_eq_true rfl) (zal hW) rfl dX8_ends_82 (z_at 85 _ [] rfl rfl rfl ?_)
  refine z_aload_n 0 dX8_ends_85 rfl (z_dup dX8_ends_86 rfl (z_getI zc8 6 (by decide) rfl gw1113 hx0 dX8_ends_87 (z_iconst dX8_ends_90 zi_1 (z_iadd dX8_ends_91 ?_))))
  refine z_putI zc8 6 (by decide) (Or.inl rfl) rfl gw1113 hx0 dX8_ends_92 (z_letw (fun w5 => ?_))
  refine z_iload_n 1 dX8_ends_95 rfl ?_
  exact z_iret zemW rfl dX8_ends_96

def f_X8_ends_b20 (S : Zs) (x0 : Nat) (x1 : Int32) (k : (Int32 × Zw) → Option (Int32 × Zw)) (x2 : Int32) (w : Zw) : Option (Int32 × Zw) :=
  if (6 : Int32) ≤ x2 then (zlet (zput w x0 6 ((w x0 6) - (1 : Int32))) fun w7 => f_X8_ends_j65 S w7 x0 x1 ) else (f_X8_copies S w (zr S x0 5) ((399 : Int32) * x2) (zr S x0 5) ((399 : Int32) * (x2 - (1 : Int32)))).bind fun r8 => k ((x2 + (1 : Int32)), r8.2)
def f_X8_ends_l20 (S : Zs) (x0 : Nat) (x1 : Int32) (a : Int32 × Zw) : Option (Int32 × Zw) :=
  zlp (fun k a => f_X8_ends_b20 S x0 x1 k a.1 a.2) zFU a
theorem m_X8_ends_l20 {E : ZE} {S : Zs} (hW : zWF S) (x0 : Nat) (hx0 : zObj S x0 8) (x1 : Int32) : ∀ a : Int32 × Zw, zOk (E, i_X8_ends, 1) 0 0 S a.2 20 [(0, .ref x0), (1, .int x1), (2, .int a.1)] [] (emW eI S) (f_X8_ends_l20 S x0 x1 a) := by
  intro a
  refine z_lp (P := fun _ => True) (W9 := fun a : Int32 × Zw => a.2) (L9 := fun a : Int32 × Zw => [(0, .ref x0), (1, .int x1), (2, .int a.1)]) (T9 := fun _ => []) (fun k hk9 a _ => ?_) zFU a trivial
  have hk : ∀ a : Int32 × Zw, zOk (E, i_X8_ends, 1) 0 0 S a.2 20 [(0, .ref x0), (1, .int x1), (2, .int a.1)] [] (emW eI S) (k a) := fun a => hk9 a trivial
  clear hk9
  obtain ⟨x2, w⟩ := a
  show zOk (E, i_X8_ends, 1) 0 0 S w 20 [(0, .ref x0), (1, .int x1), (2, .int x2)] [] (emW eI S) (f_X8_ends_b20 S x0 x1 k x2 w)
  unfold f_X8_ends_b20
  refine z_iload_n 2 dX8_ends_20 rfl (z_bipush dX8_ends_21 zb_6 ?_)
  refine z_icmp_ge 55 dX8_ends_23 rfl (fun q6 => ?_) (fun q6 => ?_)
  · refine z_aload_n 0 dX8_ends_55 rfl (z_dup dX8_ends_56 rfl (z_getI zc8 6 (by decide) rfl gw1113 hx0 dX8_ends_57 (z_iconst dX8_ends_60 zi_1 (z_isub dX8_ends_61 ?_))))
    refine z_putI zc8 6 (by decide) (Or.inl rfl) rfl gw1113 hx0 dX8_ends_62 (z_letw (fun w7 => ?_))
    refine z_sub (lv' := [(0, .ref x0), (1, .int x1)]) [0, 1] rfl ?_
    refine z_pc (pc' := 65) rfl ?_
    exact m_X8_ends_j65 hW w7 x0 hx0 x1 
  · refine z_aload_n 0 dX8_ends_26 rfl (z_getR zc8 5 (by decide) rfl gw1112 hx0 (zW_some hW hx0 5 rfl) dX8_ends_27 (z_sipush dX8_ends_30 zs_399 (z_iload_n 2 dX8_ends_33 rfl (z_imul dX8_ends_34 (z_aload_n 0 dX8_ends_35 rfl ?_)))))
    refine z_getR zc8 5 (by decide) rfl gw1112 hx0 (zW_some hW hx0 5 rfl) dX8_ends_36 (z_sipush dX8_ends_39 zs_399 (z_iload_n 2 dX8_ends_42 rfl (z_iconst dX8_ends_43 zi_1 (z_isub dX8_ends_44 (z_imul dX8_ends_45 ?_)))))
    refine z_bind (fun r8 hb9 => ?_)
    refine z_callS (kc' := 0) (ks' := 0) (v := none) (S1 := S) (w1 := r8.2) (st := []) [.ref (zr S x0 5), .int ((399 : Int32) * x2), .ref (zr S x0 5), .int ((399 : Int32) * (x2 - (1 : Int32)))] (m_X8_copies hW w (zr S x0 5) (zW_arr hW hx0 5 0 rfl) ((399 : Int32) * x2) (zr S x0 5) (zW_arr hW hx0 5 0 rfl) ((399 : Int32) * (x2 - (1 : Int32))) r8 hb9) zy_X8_copies gw1198 gw1197 (Nat.le_of_ble_eq_true rfl) (Nat.le_of_ble_eq_true rfl) (Nat.le_of_ble_eq_true rfl) (Nat.le_of_ble_eq_true rfl) (zal hW) rfl dX8_ends_46 (z_at 49 _ [] rfl rfl rfl ?_)
    refine z_iinc (v := (x2 + (1 : Int32))) (lv' := [(2, .int (x2 + (1 : Int32))), (0, .ref x0), (1, .int x1)]) 2 dX8_ends_49 rfl (zi_inc _ zi_1) (Nat.le_of_ble_eq_true rfl) rfl (z_goto 20 dX8_ends_52 rfl ?_)
    refine z_sub (lv' := [(0, .ref x0), (1, .int x1), (2, .int (x2 + (1 : Int32)))]) [1, 2, 0] rfl ?_
    refine z_pc (pc' := 20) rfl ?_
    exact hk ((x2 + (1 : Int32)), r8.2)

def f_X8_ends (S : Zs) (w : Zw) (a0 : Nat) (a1 : Int32) : Option (Int32 × Zw) :=
  if (w a0 0) = 0 then (if (w a0 6) = (6 : Int32) then f_X8_ends_l20 S a0 a1 ((1 : Int32), w) else f_X8_ends_j65 S w a0 a1 ) else some (a1, w)
theorem mw_X8_ends {E : ZE} {S : Zs} (hW : zWF S) (w : Zw) (a0 : Nat) (h0 : zObj S a0 8) (a1 : Int32) : zOk (E, i_X8_ends, 1) 0 0 S w 0 [(0, .ref a0), (1, .int a1)] [] (emW eI S) (f_X8_ends S w a0 a1) := by
  unfold f_X8_ends
  refine z_aload_n 0 dX8_ends_0 rfl (z_getI zc8 0 (by decide) rfl gw1107 h0 dX8_ends_1 ?_)
  refine z_if_eq 9 dX8_ends_4 rfl (fun q1 => ?_) (fun q1 => ?_)
  · refine z_aload_n 0 dX8_ends_9 rfl (z_getI zc8 6 (by decide) rfl gw1113 h0 dX8_ends_10 (z_bipush dX8_ends_13 zb_6 ?_))
    refine z_icmp_ne 65 dX8_ends_15 rfl (fun q2 => ?_) (fun q2 => ?_)
    · refine z_pc (pc' := 65) rfl ?_
      exact m_X8_ends_j65 hW w a0 h0 a1 
    · refine z_iconst dX8_ends_18 zi_1 (z_istore_n (lv' := [(2, .int (1 : Int32)), (0, .ref a0), (1, .int a1)]) dX8_ends_19 (Nat.le_of_ble_eq_true rfl) rfl ?_)
      refine z_sub (lv' := [(0, .ref a0), (1, .int a1), (2, .int (1 : Int32))]) [1, 2, 0] rfl ?_
      refine z_pc (pc' := 20) rfl ?_
      exact m_X8_ends_l20 hW a0 h0 a1 ((1 : Int32), w)
  · refine z_iload_n 1 dX8_ends_7 rfl ?_
    exact z_iret zemW rfl dX8_ends_8

theorem m_X8_ends {E : ZE} {S : Zs} (hW : zWF S) (w : Zw) (a0 : Nat) (h0 : zObj S a0 8) (a1 : Int32) : ∀ i, f_X8_ends S w a0 a1 = some i → zMr E yX8_ends cX8_ends 3 ((some .int)) 1 0 0 [.ref a0, .int a1] S w ((emW eI S) i) :=
  fun i hi => z_enter (by decide +kernel) (Nat.le_of_ble_eq_true rfl) (mw_X8_ends hW w a0 h0 a1 i hi)
/-! ParkingRobotModel.book (II)I : W, depth 3 -/
abbrev i_X8_book : Zm := (yX8_book.cls, cX8_book, 4, (some .int), [], yX8_book.name)
def f_X8_book (S : Zs) (w : Zw) (a0 : Nat) (a1 : Int32) (a2 : Int32) : Option (Int32 × Zw) :=
  (f_X8_begins S w a0).bind fun r1 => (f_X8_isCar S r1.2 a0 a1).bind fun v3 => if v3 = 0 then (f_X8_fails S r1.2 a0 (1 : Int32)).bind fun r17 => some (r17.1, r17.2) else (f_X8_isPickup a2).bind fun v6 => if v6 = 0 then (f_X8_fails S r1.2 a0 (2 : Int32)).bind fun r15 => some (r15.1, r15.2) else (f_X8_pickup S r1.2 a0 a1).bind fun v9 => if zin (((139 : Int32) + ((4 : Int32) * a1)) + (1 : Int32)) (zlen S (zr S a0 1)) = true then zlet (zput r1.2 (zr S a0 1) (zix (((139 : Int32) + ((4 : Int32) * a1)) + (1 : Int32))) a2) fun w12 => (f_X8_ends S w12 a0 v9).bind fun r13 => some (r13.1, r13.2) else none
theorem mw_X8_book {E : ZE} {S : Zs} (hW : zWF S) (w : Zw) (a0 : Nat) (h0 : zObj S a0 8) (a1 : Int32) (a2 : Int32) : zOk (E, i_X8_book, 3) 0 0 S w 0 [(0, .ref a0), (1, .int a1), (2, .int a2)] [] (emW eI S) (f_X8_book S w a0 a1 a2) := by
  unfold f_X8_book
  refine z_aload_n 0 dX8_book_0 rfl ?_
  refine z_bind (fun r1 hb2 => ?_)
  refine z_callV (kc' := 0) (ks' := 0) (v := none) (S1 := S) (w1 := r1.2) (st := []) [] (m_X8_begins hW w a0 h0 r1 hb2) zc8 h0 zy_X8_begins gw1195 gp25 gw1193 (Nat.le_of_ble_eq_true rfl) (Nat.le_of_ble_eq_true rfl) (Nat.le_of_ble_eq_true rfl) (Nat.le_of_ble_eq_true rfl) (zal hW) rfl dX8_book_1 (z_at 4 _ [] rfl rfl rfl ?_)
  refine z_aload_n 0 dX8_book_4 rfl (z_iload_n 1 dX8_book_5 rfl ?_)
  refine z_bind (fun v3 hb4 => ?_)
  refine z_callV (kc' := 0) (ks' := 0) (v := (some (.int v3))) (S1 := S) (w1 := r1.2) (st := []) [.int a1] (m_X8_isCar hW r1.2 a0 h0 a1 v3 hb4) zc8 h0 zy_X8_isCar gw1301 gp42 gw1299 (Nat.le_of_ble_eq_true rfl) (Nat.le_of_ble_eq_true rfl) (Nat.le_of_ble_eq_true rfl) (Nat.le_of_ble_eq_true rfl) (zal hW) rfl dX8_book_6 (z_at 9 _ [.int v3] rfl rfl rfl ?_)
  refine z_if_ne 18 dX8_book_9 rfl (fun q5 => ?_) (fun q5 => ?_)
  · refine z_iload_n 2 dX8_book_18 rfl ?_
    refine z_bind (fun v6 hb7 => ?_)
    refine z_callS (kc' := 0) (ks' := 0) (v := (some (.int v6))) (S1 := S) (w1 := r1.2) (st := []) [.int a2] (m_X8_isPickup hW r1.2 a2 v6 hb7) zy_X8_isPickup gw1211 gw1210 (Nat.le_of_ble_eq_true rfl) (Nat.le_of_ble_eq_true rfl) (Nat.le_of_ble_eq_true rfl) (Nat.le_of_ble_eq_true rfl) (zal hW) rfl dX8_book_19 (z_at 22 _ [.int v6] rfl rfl rfl ?_)
    refine z_if_ne 31 dX8_book_22 rfl (fun q8 => ?_) (fun q8 => ?_)
    · refine z_aload_n 0 dX8_book_31 rfl (z_iload_n 1 dX8_book_32 rfl ?_)
      refine z_bind (fun v9 hb10 => ?_)
      refine z_callV (kc' := 0) (ks' := 0) (v := (some (.int v9))) (S1 := S) (w1 := r1.2) (st := []) [.int a1] (m_X8_pickup hW r1.2 a0 h0 a1 v9 hb10) zc8 h0 zy_X8_pickup gw1251 gp32 gw1249 (Nat.le_of_ble_eq_true rfl) (Nat.le_of_ble_eq_true rfl) (Nat.le_of_ble_eq_true rfl) (Nat.le_of_ble_eq_true rfl) (zal hW) rfl dX8_book_33 (z_at 36 _ [.int v9] rfl rfl rfl ?_)
      refine z_istore_n (lv' := [(3, .int v9), (0, .ref a0), (1, .int a1), (2, .int a2)]) dX8_book_36 (Nat.le_of_ble_eq_true rfl) rfl (z_aload_n 1 dX8_book_37 rfl (z_getR zc8 1 (by decide) rfl gw1108 h0 (zW_some hW h0 1 rfl) dX8_book_38 (z_sipush dX8_book_41 zs_139 (z_iconst dX8_book_44 zi_4 (z_iload_n 2 dX8_book_45 rfl ?_)))))
      refine z_imul dX8_book_46 (z_iadd dX8_book_47 (z_iconst dX8_book_48 zi_1 (z_iadd dX8_book_49 (z_iload_n 3 dX8_book_50 rfl ?_))))
      refine z_chk (fun c11 => ?_)
      refine z_iast (zW_arr hW h0 1 0 rfl) c11 dX8_book_51 (z_letw (fun w12 => ?_))
      refine z_aload_n 1 dX8_book_52 rfl (z_iload_n 0 dX8_book_53 rfl ?_)
      refine z_bind (fun r13 hb14 => ?_)
      refine z_callV (kc' := 0) (ks' := 0) (v := (some (.int r13.1))) (S1 := S) (w1 := r13.2) (st := []) [.int v9] (m_X8_ends hW w12 a0 h0 v9 r13 hb14) zc8 h0 zy_X8_ends gw1289 gp40 gw1287 (Nat.le_of_ble_eq_true rfl) (Nat.le_of_ble_eq_true rfl) (Nat.le_of_ble_eq_true rfl) (Nat.le_of_ble_eq_true rfl) (zal hW) rfl dX8_book_54 (z_at 57 _ [.int r13.1] rfl rfl rfl ?_)
      exact z_iret zemW rfl dX8_book_57
    · refine z_aload_n 0 dX8_book_25 rfl (z_iconst dX8_book_26 zi_2 ?_)
      refine z_bind (fun r15 hb16 => ?_)
      refine z_callV (kc' := 0) (ks' := 0) (v := (some (.int r15.1))) (S1 := S) (w1 := r15.2) (st := []) [.int (2 : Int32)] (m_X8_fails hW r1.2 a0 h0 (2 : Int32) r15 hb16) zc8 h0 zy_X8_fails gw1215 gp27 gw1213 (Nat.le_of_ble_eq_true rfl) (Nat.le_of_ble_eq_true rfl) (Nat.le_of_ble_eq_true rfl) (Nat.le_of_ble_eq_true rfl) (zal hW) rfl dX8_book_27 (z_at 30 _ [.int r15.1] rfl rfl rfl ?_)
      exact z_iret zemW rfl dX8_book_30
  · refine z_aload_n 0 dX8_book_12 rfl (z_iconst dX8_book_13 zi_1 ?_)
    refine z_bind (fun r17 hb18 => ?_)
    refine z_callV (kc' := 0) (ks' := 0) (v := (some (.int r17.1))) (S1 := S) (w1 := r17.2) (st := []) [.int (1 : Int32)] (m_X8_fails hW r1.2 a0 h0 (1 : Int32) r17 hb18) zc8 h0 zy_X8_fails gw1215 gp27 gw1213 (Nat.le_of_ble_eq_true rfl) (Nat.le_of_ble_eq_true rfl) (Nat.le_of_ble_eq_true rfl) (Nat.le_of_ble_eq_true rfl) (zal hW) rfl dX8_book_14 (z_at 17 _ [.int r17.1] rfl rfl rfl ?_)
    exact z_iret zemW rfl dX8_book_17

theorem m_X8_book {E : ZE} {S : Zs} (hW : zWF S) (w : Zw) (a0 : Nat) (h0 : zObj S a0 8) (a1 : Int32) (a2 : Int32) : ∀ i, f_X8_book S w a0 a1 a2 = some i → zMr E yX8_book cX8_book 4 ((some .int)) 3 0 0 [.ref a0, .int a1, .int a2] S w ((emW eI S) i) :=
  fun i hi => z_enter (by decide +kernel) (Nat.le_of_ble_eq_true rfl) (mw_X8_book hW w a0 h0 a1 a2 i hi)
/-! ParkingRobotModel.bringsIn (II)V : W, depth 8 -/
abbrev i_X8_bringsIn : Zm := (yX8_bringsIn.cls, cX8_bringsIn, 7, none, [], yX8_bringsIn.name)
def f_X8_bringsIn (S : Zs) (w : Zw) (a0 : Nat) (a1 : Int32) (a2 : Int32) : Option (Unit × Zw) :=
  (f_X8_jobBegins S w a0).bind fun r1 => zlet (f_X8_level a2) fun z3 => (f_X8_ready S r1.2 a0 (3 : Int32)).bind fun v4 => (f_X8_at S r1.2 a0 (3 : Int32)).bind fun v6 => zlet (((v4 + ((3 : Int32) * v6)) + (2 : Int32)) + ((3 : Int32) * z3)) fun z8 => (f_X8_ready S r1.2 a0 z3).bind fun v9 => (f_X8_at S r1.2 a0 z3).bind fun v11 => zlet (v9 + v11) fun z13 => zlet ((zmax z8 z13) + (2 : Int32)) fun z14 => (f_X8_does S r1.2 a0 (3 : Int32) z14 z3).bind fun r15 => (f_X8_does S r15.2 a0 z3 ((z14 + (f_X8_column a2)) + (f_X8_handling a2)) (f_X8_column a2)).bind fun r17 => (f_X8_notes S r17.2 a0 a1 (-1 : Int32) a2).bind fun r19 => some ((), r19.2)
theorem mw_X8_bringsIn {E : ZE} {S : Zs} (hW : zWF S) (w : Zw) (a0 : Nat) (h0 : zObj S a0 8) (a1 : Int32) (a2 : Int32) : zOk (E, i_X8_bringsIn, 8) 0 0 S w 0 [(0, .ref a0), (1, .int a1), (2, .int a2)] [] (emW eU S) (f_X8_bringsIn S w a0 a1 a2) := by
  unfold f_X8_bringsIn
  refine z_aload_n 0 dX8_bringsIn_0 rfl ?_
  refine z_bind (fun r1 hb2 => ?_)
  refine z_callV (kc' := 0) (ks' := 0) (v := none) (S1 := S) (w1 := r1.2) (st := []) [] (m_X8_jobBegins hW w a0 h0 r1 hb2) zc8 h0 zy_X8_jobBegins gw1263 gp35 gw1261 (Nat.le_of_ble_eq_true rfl) (Nat.le_of_ble_eq_true rfl) (Nat.le_of_ble_eq_true rfl) (Nat.le_of_ble_eq_true rfl) (zal hW) rfl dX8_bringsIn_1 (z_at 4 _ [] rfl rfl rfl ?_)
  refine z_iload_n 2 dX8_bringsIn_4 rfl ?_
  refine z_callS (kc' := 0) (ks' := 0) (v := (some (.int (f_X8_level a2)))) (S1 := S) (w1 := r1.2) (st := []) [.int a2] (m_X8_level hW r1.2 a2) zy_X8_level gw1242 gw1241 (Nat.le_of_ble_eq_true rfl) (Nat.le_of_ble_eq_true rfl) (Nat.le_of_ble_eq_true rfl) (Nat.le_of_ble_eq_true rfl) (zal hW) rfl dX8_bringsIn_5 (z_at 8 _ [.int (f_X8_level a2)] rfl rfl rfl ?_)
  refine z_let (a := (f_X8_level a2)) (fun z3 => [(0, .ref a0), (1, .int a1), (2, .int a2)]) (fun z3 => .int z3 :: []) (fun z3 => ?_)
  refine z_istore_n (lv' := [(3, .int z3), (0, .ref a0), (1, .int a1), (2, .int a2)]) dX8_bringsIn_8 (Nat.le_of_ble_eq_true rfl) rfl (z_aload_n 1 dX8_bringsIn_9 rfl (z_iconst dX8_bringsIn_10 zi_3 ?_))
  refine z_bind (fun v4 hb5 => ?_)
  refine z_callV (kc' := 0) (ks' := 0) (v := (some (.int v4))) (S1 := S) (w1 := r1.2) (st := []) [.int (3 : Int32)] (m_X8_ready hW r1.2 a0 h0 (3 : Int32) v4 hb5) zc8 h0 zy_X8_ready gw1268 gp36 gw1266 (Nat.le_of_ble_eq_true rfl) (Nat.le_of_ble_eq_true rfl) (Nat.le_of_ble_eq_true rfl) (Nat.le_of_ble_eq_true rfl) (zal hW) rfl dX8_bringsIn_11 (z_at 14 _ [.int v4] rfl rfl rfl ?_)
  refine z_iconst dX8_bringsIn_14 zi_3 (z_aload_n 1 dX8_bringsIn_15 rfl (z_iconst dX8_bringsIn_16 zi_3 ?_))
  refine z_bind (fun v6 hb7 => ?_)
  refine z_callV (kc' := 0) (ks' := 0) (v := (some (.int v6))) (S1 := S) (w1 := r1.2) (st := [.int (3 : Int32), .int v4]) [.int (3 : Int32)] (m_X8_at hW r1.2 a0 h0 (3 : Int32) v6 hb7) zc8 h0 zy_X8_at gw1273 gp37 gw1271 (Nat.le_of_ble_eq_true rfl) (Nat.le_of_ble_eq_true rfl) (Nat.le_of_ble_eq_true rfl) (Nat.le_of_ble_eq_true rfl) (zal hW) rfl dX8_bringsIn_17 (z_at 20 _ [.int v6, .int (3 : Int32), .int v4] rfl rfl rfl ?_)
  refine z_imul dX8_bringsIn_20 (z_iadd dX8_bringsIn_21 (z_iconst dX8_bringsIn_22 zi_2 (z_iadd dX8_bringsIn_23 (z_iconst dX8_bringsIn_24 zi_3 (z_iload_n 0 dX8_bringsIn_25 rfl ?_)))))
  refine z_imul dX8_bringsIn_26 (z_iadd dX8_bringsIn_27 ?_)
  refine z_let (a := (((v4 + ((3 : Int32) * v6)) + (2 : Int32)) + ((3 : Int32) * z3))) (fun z8 => [(3, .int z3), (0, .ref a0), (1, .int a1), (2, .int a2)]) (fun z8 => .int z8 :: []) (fun z8 => ?_)
  refine z_istore (lv' := [(4, .int z8), (3, .int z3), (0, .ref a0), (1, .int a1), (2, .int a2)]) dX8_bringsIn_28 (Nat.le_of_ble_eq_true rfl) rfl (z_aload_n 2 dX8_bringsIn_30 rfl (z_iload_n 1 dX8_bringsIn_31 rfl ?_))
  refine z_bind (fun v9 hb10 => ?_)
  refine z_callV (kc' := 0) (ks' := 0) (v := (some (.int v9))) (S1 := S) (w1 := r1.2) (st := []) [.int z3] (m_X8_ready hW r1.2 a0 h0 z3 v9 hb10) zc8 h0 zy_X8_ready gw1268 gp36 gw1266 (Nat.le_of_ble_eq_true rfl) (Nat.le_of_ble_eq_true rfl) (Nat.le_of_ble_eq_true rfl) (Nat.le_of_ble_eq_true rfl) (zal hW) rfl dX8_bringsIn_32 (z_at 35 _ [.int v9] rfl rfl rfl ?_)
  refine z_aload_n 2 dX8_bringsIn_35 rfl (z_iload_n 1 dX8_bringsIn_36 rfl ?_)
  refine z_bind (fun v11 hb12 => ?_)
  refine z_callV (kc' := 0) (ks' := 0) (v := (some (.int v11))) (S1 := S) (w1 := r1.2) (st := [.int v9]) [.int z3] (m_X8_at hW r1.2 a0 h0 z3 v11 hb12) zc8 h0 zy_X8_at gw1273 gp37 gw1271 (Nat.le_of_ble_eq_true rfl) (Nat.le_of_ble_eq_true rfl) (Nat.le_of_ble_eq_true rfl) (Nat.le_of_ble_eq_true rfl) (zal hW) rfl dX8_bringsIn_37 (z_at 40 _ [.int v11, .int v9] rfl rfl rfl ?_)
  refine z_iadd dX8_bringsIn_40 ?_
  refine z_let (a := (v9 + v11)) (fun z13 => [(4, .int z8), (3, .int z3), (0, .ref a0), (1, .int a1), (2, .int a2)]) (fun z13 => .int z13 :: []) (fun z13 => ?_)
  refine z_istore (lv' := [(5, .int z13), (4, .int z8), (3, .int z3), (0, .ref a0), (1, .int a1), (2, .int a2)]) dX8_bringsIn_41 (Nat.le_of_ble_eq_true rfl) rfl (z_iload 1 dX8_bringsIn_43 rfl (z_iload 0 dX8_bringsIn_45 rfl (z_max gw1270 (Nat.le_of_ble_eq_true rfl) (Nat.le_of_ble_eq_true rfl) dX8_bringsIn_47 (z_iconst dX8_bringsIn_50 zi_2 (z_iadd dX8_bringsIn_51 ?_)))))
  refine z_let (a := ((zmax z8 z13) + (2 : Int32))) (fun z14 => [(5, .int z13), (4, .int z8), (3, .int z3), (0, .ref a0), (1, .int a1), (2, .int a2)]) (fun z14 => .int z14 :: []) (fun z14 => ?_)
  refine z_istore (lv' := [(6, .int z14), (5, .int z13), (4, .int z8), (3, .int z3), (0, .ref a0), (1, .int a1), (2, .int a2)]) dX8_bringsIn_52 (Nat.le_of_ble_eq_true rfl) rfl (z_aload_n 4 dX8_bringsIn_54 rfl (z_iconst dX8_bringsIn_55 zi_3 (z_iload 0 dX8_bringsIn_56 rfl (z_iload_n 3 dX8_bringsIn_58 rfl ?_))))
  refine z_bind (fun r15 hb16 => ?_)
  refine z_callV (kc' := 0) (ks' := 0) (v := none) (S1 := S) (w1 := r15.2) (st := []) [.int (3 : Int32), .int z14, .int z3] (m_X8_does hW r1.2 a0 h0 (3 : Int32) z14 z3 r15 hb16) zc8 h0 zy_X8_does gw1277 gp38 gw1275 (Nat.le_of_ble_eq_true rfl) (Nat.le_of_ble_eq_true rfl) (Nat.le_of_ble_eq_true rfl) (Nat.le_of_ble_eq_true rfl) (zal hW) rfl dX8_bringsIn_59 (z_at 62 _ [] rfl rfl rfl ?_)
  refine z_aload_n 4 dX8_bringsIn_62 rfl (z_iload_n 3 dX8_bringsIn_63 rfl (z_iload 0 dX8_bringsIn_64 rfl (z_iload_n 6 dX8_bringsIn_66 rfl ?_)))
  refine z_callS (kc' := 0) (ks' := 0) (v := (some (.int (f_X8_column a2)))) (S1 := S) (w1 := r15.2) (st := [.int z14, .int z3, .ref a0]) [.int a2] (m_X8_column hW r15.2 a2) zy_X8_column gw1229 gw1228 (Nat.le_of_ble_eq_true rfl) (Nat.le_of_ble_eq_true rfl) (Nat.le_of_ble_eq_true rfl) (Nat.le_of_ble_eq_true rfl) (zal hW) rfl dX8_bringsIn_67 (z_at 70 _ [.int (f_X8_column a2), .int z14, .int z3, .ref a0] rfl rfl rfl ?_)
  refine z_iadd dX8_bringsIn_70 (z_iload_n 6 dX8_bringsIn_71 rfl ?_)
  refine z_callS (kc' := 0) (ks' := 0) (v := (some (.int (f_X8_handling a2)))) (S1 := S) (w1 := r15.2) (st := [.int (z14 + (f_X8_column a2)), .int z3, .ref a0]) [.int a2] (m_X8_handling hW r15.2 a2) zy_X8_handling gw1281 gw1280 (Nat.le_of_ble_eq_true rfl) (Nat.le_of_ble_eq_true rfl) (Nat.le_of_ble_eq_true rfl) (Nat.le_of_ble_eq_true rfl) (zal hW) rfl dX8_bringsIn_72 (z_at 75 _ [.int (f_X8_handling a2), .int (z14 + (f_X8_column a2)), .int z3, .ref a0] rfl rfl rfl ?_)
  refine z_iadd dX8_bringsIn_75 (z_iload_n 6 dX8_bringsIn_76 rfl ?_)
  refine z_callS (kc' := 0) (ks' := 0) (v := (some (.int (f_X8_column a2)))) (S1 := S) (w1 := r15.2) (st := [.int ((z14 + (f_X8_column a2)) + (f_X8_handling a2)), .int z3, .ref a0]) [.int a2] (m_X8_column hW r15.2 a2) zy_X8_column gw1229 gw1228 (Nat.le_of_ble_eq_true rfl) (Nat.le_of_ble_eq_true rfl) (Nat.le_of_ble_eq_true rfl) (Nat.le_of_ble_eq_true rfl) (zal hW) rfl dX8_bringsIn_77 (z_at 80 _ [.int (f_X8_column a2), .int ((z14 + (f_X8_column a2)) + (f_X8_handling a2)), .int z3, .ref a0] rfl rfl rfl ?_)
  refine z_bind (fun r17 hb18 => ?_)
  refine z_callV (kc' := 0) (ks' := 0) (v := none) (S1 := S) (w1 := r17.2) (st := []) [.int z3, .int ((z14 + (f_X8_column a2)) + (f_X8_handling a2)), .int (f_X8_column a2)] (m_X8_does hW r15.2 a0 h0 z3 ((z14 + (f_X8_column a2)) + (f_X8_handling a2)) (f_X8_column a2) r17 hb18) zc8 h0 zy_X8_does gw1277 gp38 gw1275 (Nat.le_of_ble_eq_true rfl) (Nat.le_of_ble_eq_true rfl) (Nat.le_of_ble_eq_true rfl) (Nat.le_of_ble_eq_true rfl) (zal hW) rfl dX8_bringsIn_80 (z_at 83 _ [] rfl rfl rfl ?_)
  refine z_aload_n 4 dX8_bringsIn_83 rfl (z_iload_n 5 dX8_bringsIn_84 rfl (z_iconst dX8_bringsIn_85 zi_m1 (z_iload_n 6 dX8_bringsIn_86 rfl ?_)))
  refine z_bind (fun r19 hb20 => ?_)
  refine z_callV (kc' := 0) (ks' := 0) (v := none) (S1 := S) (w1 := r19.2) (st := []) [.int a1, .int (-1 : Int32), .int a2] (m_X8_notes hW r17.2 a0 h0 a1 (-1 : Int32) a2 r19 hb20) zc8 h0 zy_X8_notes gw1285 gp39 gw1283 (Nat.le_of_ble_eq_true rfl) (Nat.le_of_ble_eq_true rfl) (Nat.le_of_ble_eq_true rfl) (Nat.le_of_ble_eq_true rfl) (zal hW) rfl dX8_bringsIn_87 (z_at 90 _ [] rfl rfl rfl ?_)
  exact z_vret zemW rfl dX8_bringsIn_90

theorem m_X8_bringsIn {E : ZE} {S : Zs} (hW : zWF S) (w : Zw) (a0 : Nat) (h0 : zObj S a0 8) (a1 : Int32) (a2 : Int32) : ∀ i, f_X8_bringsIn S w a0 a1 a2 = some i → zMr E yX8_bringsIn cX8_bringsIn 7 none 8 0 0 [.ref a0, .int a1, .int a2] S w ((emW eU S) i) :=
  fun i hi => z_enter (by decide +kernel) (Nat.le_of_ble_eq_true rfl) (mw_X8_bringsIn hW w a0 h0 a1 a2 i hi)
/-! ParkingRobotModel.jobsOf (I)I : P, depth 1 -/
abbrev i_X8_jobsOf : Zm := (yX8_jobsOf.cls, cX8_jobsOf, 2, (some .int), [], yX8_jobsOf.name)
def f_X8_jobsOf (S : Zs) (w : Zw) (a0 : Nat) (a1 : Int32) : Option (Int32) :=
  (f_X8_of S w a0 a1 (3 : Int32)).bind fun v1 => some v1
theorem mw_X8_jobsOf {E : ZE} {S : Zs} (hW : zWF S) (w : Zw) (a0 : Nat) (h0 : zObj S a0 8) (a1 : Int32) : zOk (E, i_X8_jobsOf, 1) 0 0 S w 0 [(0, .ref a0), (1, .int a1)] [] (emP eI S w) (f_X8_jobsOf S w a0 a1) := by
  unfold f_X8_jobsOf
  refine z_aload_n 0 dX8_jobsOf_0 rfl (z_iload_n 1 dX8_jobsOf_1 rfl (z_iconst dX8_jobsOf_2 zi_3 ?_))
  refine z_bind (fun v1 hb2 => ?_)
  refine z_callV (kc' := 0) (ks' := 0) (v := (some (.int v1))) (S1 := S) (w1 := w) (st := []) [.int a1, .int (3 : Int32)] (m_X8_of hW w a0 h0 a1 (3 : Int32) v1 hb2) zc8 h0 zy_X8_of gw1255 gp33 gw1253 (Nat.le_of_ble_eq_true rfl) (Nat.le_of_ble_eq_true rfl) (Nat.le_of_ble_eq_true rfl) (Nat.le_of_ble_eq_true rfl) (zal hW) rfl dX8_jobsOf_3 (z_at 6 _ [.int v1] rfl rfl rfl ?_)
  exact z_iret zemP rfl dX8_jobsOf_6

theorem m_X8_jobsOf {E : ZE} {S : Zs} (hW : zWF S) (w : Zw) (a0 : Nat) (h0 : zObj S a0 8) (a1 : Int32) : ∀ i, f_X8_jobsOf S w a0 a1 = some i → zMr E yX8_jobsOf cX8_jobsOf 2 ((some .int)) 1 0 0 [.ref a0, .int a1] S w ((emP eI S w) i) :=
  fun i hi => z_enter (by decide +kernel) (Nat.le_of_ble_eq_true rfl) (mw_X8_jobsOf hW w a0 h0 a1 i hi)
/-! ParkingRobotModel.car (II)I : W, depth 3 -/
abbrev i_X8_car : Zm := (yX8_car.cls, cX8_car, 3, (some .int), [], yX8_car.name)
def f_X8_car (S : Zs) (w : Zw) (a0 : Nat) (a1 : Int32) (a2 : Int32) : Option (Int32 × Zw) :=
  zlet (zput w a0 0 (0 : Int32)) fun w1 => (f_X8_isCar S w1 a0 a1).bind fun v2 => if v2 = 0 then (f_X8_fails S w1 a0 (1 : Int32)).bind fun r18 => some (r18.1, r18.2) else (f_X8_in a2 (0 : Int32) (4 : Int32)).bind fun v5 => if v5 = 0 then (f_X8_fails S w1 a0 (2 : Int32)).bind fun r16 => some (r16.1, r16.2) else if a2 = (3 : Int32) then (f_X8_blocking S w1 a0 a1).bind fun v14 => some (v14, w1) else if a2 = (4 : Int32) then (f_X8_jobsOf S w1 a0 a1).bind fun v12 => some (v12, w1) else (f_X8_of S w1 a0 a1 a2).bind fun v10 => some (v10, w1)
theorem mw_X8_car {E : ZE} {S : Zs} (hW : zWF S) (w : Zw) (a0 : Nat) (h0 : zObj S a0 8) (a1 : Int32) (a2 : Int32) : zOk (E, i_X8_car, 3) 0 0 S w 0 [(0, .ref a0), (1, .int a1), (2, .int a2)] [] (emW eI S) (f_X8_car S w a0 a1 a2) := by
  unfold f_X8_car
  refine z_aload_n 0 dX8_car_0 rfl (z_iconst dX8_car_1 zi_0 ?_)
  refine z_putI zc8 0 (by decide) (Or.inl rfl) rfl gw1107 h0 dX8_car_2 (z_letw (fun w1 => ?_))
  refine z_aload_n 0 dX8_car_5 rfl (z_iload_n 1 dX8_car_6 rfl ?_)
  refine z_bind (fun v2 hb3 => ?_)
  refine z_callV (kc' := 0) (ks' := 0) (v := (some (.int v2))) (S1 := S) (w1 := w1) (st := []) [.int a1] (m_X8_isCar hW w1 a0 h0 a1 v2 hb3) zc8 h0 zy_X8_isCar gw1301 gp42 gw1299 (Nat.le_of_ble_eq_true rfl) (Nat.le_of_ble_eq_true rfl) (Nat.le_of_ble_eq_true rfl) (Nat.le_of_ble_eq_true rfl) (zal hW) rfl dX8_car_7 (z_at 10 _ [.int v2] rfl rfl rfl ?_)
  refine z_if_ne 19 dX8_car_10 rfl (fun q4 => ?_) (fun q4 => ?_)
  · refine z_iload_n 2 dX8_car_19 rfl (z_iconst dX8_car_20 zi_0 (z_iconst dX8_car_21 zi_4 ?_))
    refine z_bind (fun v5 hb6 => ?_)
    refine z_callS (kc' := 0) (ks' := 0) (v := (some (.int v5))) (S1 := S) (w1 := w1) (st := []) [.int a2, .int (0 : Int32), .int (4 : Int32)] (m_X8_in hW w1 a2 (0 : Int32) (4 : Int32) v5 hb6) zy_X8_in gw1208 gw1207 (Nat.le_of_ble_eq_true rfl) (Nat.le_of_ble_eq_true rfl) (Nat.le_of_ble_eq_true rfl) (Nat.le_of_ble_eq_true rfl) (zal hW) rfl dX8_car_22 (z_at 25 _ [.int v5] rfl rfl rfl ?_)
    refine z_if_ne 34 dX8_car_25 rfl (fun q7 => ?_) (fun q7 => ?_)
    · refine z_iload_n 2 dX8_car_34 rfl (z_iconst dX8_car_35 zi_3 ?_)
      refine z_icmp_ne 47 dX8_car_36 rfl (fun q8 => ?_) (fun q8 => ?_)
      · refine z_iload_n 2 dX8_car_47 rfl (z_iconst dX8_car_48 zi_4 ?_)
        refine z_icmp_ne 60 dX8_car_49 rfl (fun q9 => ?_) (fun q9 => ?_)
        · refine z_aload_n 0 dX8_car_60 rfl (z_iload_n 1 dX8_car_61 rfl (z_iload_n 2 dX8_car_62 rfl ?_))
          refine z_bind (fun v10 hb11 => ?_)
          refine z_callV (kc' := 0) (ks' := 0) (v := (some (.int v10))) (S1 := S) (w1 := w1) (st := []) [.int a1, .int a2] (m_X8_of hW w1 a0 h0 a1 a2 v10 hb11) zc8 h0 zy_X8_of gw1255 gp33 gw1253 (Nat.le_of_ble_eq_true rfl) (Nat.le_of_ble_eq_true rfl) (Nat.le_of_ble_eq_true rfl) (Nat.le_of_ble_eq_true rfl) (zal hW) rfl dX8_car_63 (z_at 66 _ [.int v10] rfl rfl rfl ?_)
          exact z_iret zemW rfl dX8_car_66
        · refine z_aload_n 0 dX8_car_52 rfl (z_iload_n 1 dX8_car_53 rfl ?_)
          refine z_bind (fun v12 hb13 => ?_)
          refine z_callV (kc' := 0) (ks' := 0) (v := (some (.int v12))) (S1 := S) (w1 := w1) (st := []) [.int a1] (m_X8_jobsOf hW w1 a0 h0 a1 v12 hb13) zc8 h0 zy_X8_jobsOf gw1337 gp49 gw1335 (Nat.le_of_ble_eq_true rfl) (Nat.le_of_ble_eq_true rfl) (Nat.le_of_ble_eq_true rfl) (Nat.le_of_ble_eq_true rfl) (zal hW) rfl dX8_car_54 (z_at 57 _ [.int v12] rfl rfl rfl ?_)
          refine z_goto 66 dX8_car_57 rfl ?_
          exact z_iret zemW rfl dX8_car_66
      · refine z_aload_n 0 dX8_car_39 rfl (z_iload_n 1 dX8_car_40 rfl ?_)
        refine z_bind (fun v14 hb15 => ?_)
        refine z_callV (kc' := 0) (ks' := 0) (v := (some (.int v14))) (S1 := S) (w1 := w1) (st := []) [.int a1] (m_X8_blocking hW w1 a0 h0 a1 v14 hb15) zc8 h0 zy_X8_blocking gw1309 gp44 gw1307 (Nat.le_of_ble_eq_true rfl) (Nat.le_of_ble_eq_true rfl) (Nat.le_of_ble_eq_true rfl) (Nat.le_of_ble_eq_true rfl) (zal hW) rfl dX8_car_41 (z_at 44 _ [.int v14] rfl rfl rfl ?_)
        refine z_goto 66 dX8_car_44 rfl ?_
        exact z_iret zemW rfl dX8_car_66
    · refine z_aload_n 0 dX8_car_28 rfl (z_iconst dX8_car_29 zi_2 ?_)
      refine z_bind (fun r16 hb17 => ?_)
      refine z_callV (kc' := 0) (ks' := 0) (v := (some (.int r16.1))) (S1 := S) (w1 := r16.2) (st := []) [.int (2 : Int32)] (m_X8_fails hW w1 a0 h0 (2 : Int32) r16 hb17) zc8 h0 zy_X8_fails gw1215 gp27 gw1213 (Nat.le_of_ble_eq_true rfl) (Nat.le_of_ble_eq_true rfl) (Nat.le_of_ble_eq_true rfl) (Nat.le_of_ble_eq_true rfl) (zal hW) rfl dX8_car_30 (z_at 33 _ [.int r16.1] rfl rfl rfl ?_)
      exact z_iret zemW rfl dX8_car_33
  · refine z_aload_n 0 dX8_car_13 rfl (z_iconst dX8_car_14 zi_1 ?_)
    refine z_bind (fun r18 hb19 => ?_)
    refine z_callV (kc' := 0) (ks' := 0) (v := (some (.int r18.1))) (S1 := S) (w1 := r18.2) (st := []) [.int (1 : Int32)] (m_X8_fails hW w1 a0 h0 (1 : Int32) r18 hb19) zc8 h0 zy_X8_fails gw1215 gp27 gw1213 (Nat.le_of_ble_eq_true rfl) (Nat.le_of_ble_eq_true rfl) (Nat.le_of_ble_eq_true rfl) (Nat.le_of_ble_eq_true rfl) (zal hW) rfl dX8_car_15 (z_at 18 _ [.int r18.1] rfl rfl rfl ?_)
    exact z_iret zemW rfl dX8_car_18

theorem m_X8_car {E : ZE} {S : Zs} (hW : zWF S) (w : Zw) (a0 : Nat) (h0 : zObj S a0 8) (a1 : Int32) (a2 : Int32) : ∀ i, f_X8_car S w a0 a1 a2 = some i → zMr E yX8_car cX8_car 3 ((some .int)) 3 0 0 [.ref a0, .int a1, .int a2] S w ((emW eI S) i) :=
  fun i hi => z_enter (by decide +kernel) (Nat.le_of_ble_eq_true rfl) (mw_X8_car hW w a0 h0 a1 a2 i hi)
/-! ParkingRobotModel.isSize (I)Z : P, depth 1 -/
abbrev i_X8_isSize : Zm := (yX8_isSize.cls, cX8_isSize, 1, (some .boolean), [], yX8_isSize.name)
def f_X8_isSize (a0 : Int32) : Option (Int32) :=
  (f_X8_in a0 (0 : Int32) (1 : Int32)).bind fun v1 => if zb1 v1 = true then some v1 else none
theorem mw_X8_isSize {E : ZE} {S : Zs} (hW : zWF S) (w : Zw) (a0 : Int32) : zOk (E, i_X8_isSize, 1) 0 0 S w 0 [(0, .int a0)] [] (emP eI S w) (f_X8_isSize a0) := by
  unfold f_X8_isSize
  refine z_iload_n 0 dX8_isSize_0 rfl (z_iconst dX8_isSize_1 zi_0 (z_iconst dX8_isSize_2 zi_1 ?_))
  refine z_bind (fun v1 hb2 => ?_)
  refine z_callS (kc' := 0) (ks' := 0) (v := (some (.int v1))) (S1 := S) (w1 := w) (st := []) [.int a0, .int (0 : Int32), .int (1 : Int32)] (m_X8_in hW w a0 (0 : Int32) (1 : Int32) v1 hb2) zy_X8_in gw1208 gw1207 (Nat.le_of_ble_eq_true rfl) (Nat.le_of_ble_eq_true rfl) (Nat.le_of_ble_eq_true rfl) (Nat.le_of_ble_eq_true rfl) (zal hW) rfl dX8_isSize_3 (z_at 6 _ [.int v1] rfl rfl rfl ?_)
  refine z_chk (fun c3 => ?_)
  exact z_zret zemP rfl (zb1_nar c3) dX8_isSize_6

theorem m_X8_isSize {E : ZE} {S : Zs} (hW : zWF S) (w : Zw) (a0 : Int32) : ∀ i, f_X8_isSize a0 = some i → zMr E yX8_isSize cX8_isSize 1 ((some .boolean)) 1 0 0 [.int a0] S w ((emP eI S w) i) :=
  fun i hi => z_enter (by decide +kernel) (Nat.le_of_ble_eq_true rfl) (mw_X8_isSize hW w a0 i hi)
/-! ParkingRobotModel.stores (II)I : W, depth 9 -/
abbrev i_X8_stores : Zm := (yX8_stores.cls, cX8_stores, 5, (some .int), [], yX8_stores.name)
def f_X8_stores_j14 (S : Zs) (w : Zw) (x0 : Nat) : Option (Int32 × Zw) :=
  (f_X8_fails S w x0 (1 : Int32)).bind fun r4 => some (r4.1, r4.2)
theorem m_X8_stores_j14 {E : ZE} {S : Zs} (hW : zWF S) (w : Zw) (x0 : Nat) (hx0 : zObj S x0 8) : zOk (E, i_X8_stores, 9) 0 0 S w 14 [(0, .ref x0)] [] (emW eI S) (f_X8_stores_j14 S w x0) := by
  unfold f_X8_stores_j14
  refine z_aload_n 0 dX8_stores_14 rfl (z_iconst dX8_stores_15 zi_1 ?_)
  refine z_bind (fun r4 hb5 => ?_)
  refine z_callV (kc' := 0) (ks' := 0) (v := (some (.int r4.1))) (S1 := S) (w1 := r4.2) (st := []) [.int (1 : Int32)] (m_X8_fails hW w x0 hx0 (1 : Int32) r4 hb5) zc8 hx0 zy_X8_fails gw1215 gp27 gw1213 (Nat.le_of_ble_eq_true rfl) (Nat.le_of_ble_eq_true rfl) (Nat.le_of_ble_eq_true rfl) (Nat.le_of_ble_eq_true rfl) (zal hW) rfl dX8_stores_16 (z_at 19 _ [.int r4.1] rfl rfl rfl ?_)
  exact z_iret zemW rfl dX8_stores_19

def f_X8_stores (S : Zs) (w : Zw) (a0 : Nat) (a1 : Int32) (a2 : Int32) : Option (Int32 × Zw) :=
  (f_X8_isSize a1).bind fun v1 => if v1 = 0 then f_X8_stores_j14 S w a0  else (f_X8_isPickup a2).bind fun v6 => if v6 = 0 then f_X8_stores_j14 S w a0  else if zin (1 : Int32) (zlen S (zr S a0 1)) = true then zlet (w (zr S a0 1) (zix (1 : Int32))) fun z10 => if z10 = (40 : Int32) then (f_X8_fails S w a0 (2 : Int32)).bind fun r28 => some (r28.1, r28.2) else (f_X8_chosen S w a0 a1 a2 (-1 : Int32)).bind fun v12 => if 0 ≤ v12 then (if zin ((139 : Int32) + ((4 : Int32) * z10)) (zlen S (zr S a0 1)) = true then zlet (zput w (zr S a0 1) (zix ((139 : Int32) + ((4 : Int32) * z10))) a1) fun w16 => if zin (((139 : Int32) + ((4 : Int32) * z10)) + (1 : Int32)) (zlen S (zr S a0 1)) = true then zlet (zput w16 (zr S a0 1) (zix (((139 : Int32) + ((4 : Int32) * z10)) + (1 : Int32))) a2) fun w18 => if zin (((139 : Int32) + ((4 : Int32) * z10)) + (3 : Int32)) (zlen S (zr S a0 1)) = true then zlet (zput w18 (zr S a0 1) (zix (((139 : Int32) + ((4 : Int32) * z10)) + (3 : Int32))) (0 : Int32)) fun w20 => if zin (1 : Int32) (zlen S (zr S a0 1)) = true then if zin (1 : Int32) (zlen S (zr S a0 1)) = true then zlet (zput w20 (zr S a0 1) (zix (1 : Int32)) ((w20 (zr S a0 1) (zix (1 : Int32))) + (1 : Int32))) fun w23 => (f_X8_bringsIn S w23 a0 z10 v12).bind fun r24 => some (v12, r24.2) else none else none else none else none else none) else (f_X8_fails S w a0 (3 : Int32)).bind fun r26 => some (r26.1, r26.2) else none
theorem mw_X8_stores {E : ZE} {S : Zs} (hW : zWF S) (w : Zw) (a0 : Nat) (h0 : zObj S a0 8) (a1 : Int32) (a2 : Int32) : zOk (E, i_X8_stores, 9) 0 0 S w 0 [(0, .ref a0), (1, .int a1), (2, .int a2)] [] (emW eI S) (f_X8_stores S w a0 a1 a2) := by
  unfold f_X8_stores
  refine z_iload_n 1 dX8_stores_0 rfl ?_
  refine z_bind (fun v1 hb2 => ?_)
  refine z_callS (kc' := 0) (ks' := 0) (v := (some (.int v1))) (S1 := S) (w1 := w) (st := []) [.int a1] (m_X8_isSize hW w a1 v1 hb2) zy_X8_isSize gw1205 gw1204 (Nat.le_of_ble_eq_true rfl) (Nat.le_of_ble_eq_true rfl) (Nat.le_of_ble_eq_true rfl) (Nat.le_of_ble_eq_true rfl) (zal hW) rfl dX8_stores_1 (z_at 4 _ [.int v1] rfl rfl rfl ?_)
  refine z_if_eq 14 dX8_stores_4 rfl (fun q3 => ?_) (fun q3 => ?_)
  · refine z_sub (lv' := [(0, .ref a0)]) [0] rfl ?_
    refine z_pc (pc' := 14) rfl ?_
    exact m_X8_stores_j14 hW w a0 h0 
  · refine z_iload_n 2 dX8_stores_7 rfl ?_
    refine z_bind (fun v6 hb7 => ?_)
    refine z_callS (kc' := 0) (ks' := 0) (v := (some (.int v6))) (S1 := S) (w1 := w) (st := []) [.int a2] (m_X8_isPickup hW w a2 v6 hb7) zy_X8_isPickup gw1211 gw1210 (Nat.le_of_ble_eq_true rfl) (Nat.le_of_ble_eq_true rfl) (Nat.le_of_ble_eq_true rfl) (Nat.le_of_ble_eq_true rfl) (zal hW) rfl dX8_stores_8 (z_at 11 _ [.int v6] rfl rfl rfl ?_)
    refine z_if_ne 20 dX8_stores_11 rfl (fun q8 => ?_) (fun q8 => ?_)
    · refine z_aload_n 0 dX8_stores_20 rfl (z_getR zc8 1 (by decide) rfl gw1108 h0 (zW_some hW h0 1 rfl) dX8_stores_21 (z_iconst dX8_stores_24 zi_1 ?_))
      refine z_chk (fun c9 => ?_)
      refine z_iald (zW_arr hW h0 1 0 rfl) c9 dX8_stores_25 ?_
      refine z_let (a := (w (zr S a0 1) (zix (1 : Int32)))) (fun z10 => [(0, .ref a0), (1, .int a1), (2, .int a2)]) (fun z10 => .int z10 :: []) (fun z10 => ?_)
      refine z_istore_n (lv' := [(3, .int z10), (0, .ref a0), (1, .int a1), (2, .int a2)]) dX8_stores_26 (Nat.le_of_ble_eq_true rfl) rfl (z_iload_n 0 dX8_stores_27 rfl (z_bipush dX8_stores_28 zb_40 ?_))
      refine z_icmp_ne 39 dX8_stores_30 rfl (fun q11 => ?_) (fun q11 => ?_)
      · refine z_aload_n 1 dX8_stores_39 rfl (z_iload_n 2 dX8_stores_40 rfl (z_iload_n 3 dX8_stores_41 rfl (z_iconst dX8_stores_42 zi_m1 ?_)))
        refine z_bind (fun v12 hb13 => ?_)
        refine z_callV (kc' := 0) (ks' := 0) (v := (some (.int v12))) (S1 := S) (w1 := w) (st := []) [.int a1, .int a2, .int (-1 : Int32)] (m_X8_chosen hW w a0 h0 a1 a2 (-1 : Int32) v12 hb13) zc8 h0 zy_X8_chosen gw1219 gp28 gw1217 (Nat.le_of_ble_eq_true rfl) (Nat.le_of_ble_eq_true rfl) (Nat.le_of_ble_eq_true rfl) (Nat.le_of_ble_eq_true rfl) (zal hW) rfl dX8_stores_43 (z_at 46 _ [.int v12] rfl rfl rfl ?_)
        refine z_istore (lv' := [(4, .int v12), (3, .int z10), (0, .ref a0), (1, .int a1), (2, .int a2)]) dX8_stores_46 (Nat.le_of_ble_eq_true rfl) rfl (z_iload 0 dX8_stores_48 rfl ?_)
        refine z_if_ge 59 dX8_stores_50 rfl (fun q14 => ?_) (fun q14 => ?_)
        · refine z_aload_n 2 dX8_stores_59 rfl (z_getR zc8 1 (by decide) rfl gw1108 h0 (zW_some hW h0 1 rfl) dX8_stores_60 (z_sipush dX8_stores_63 zs_139 (z_iconst dX8_stores_66 zi_4 (z_iload_n 1 dX8_stores_67 rfl (z_imul dX8_stores_68 ?_)))))
          refine z_iadd dX8_stores_69 (z_iload_n 3 dX8_stores_70 rfl ?_)
          refine z_chk (fun c15 => ?_)
          refine z_iast (zW_arr hW h0 1 0 rfl) c15 dX8_stores_71 (z_letw (fun w16 => ?_))
          refine z_aload_n 2 dX8_stores_72 rfl (z_getR zc8 1 (by decide) rfl gw1108 h0 (zW_some hW h0 1 rfl) dX8_stores_73 (z_sipush dX8_stores_76 zs_139 (z_iconst dX8_stores_79 zi_4 (z_iload_n 1 dX8_stores_80 rfl (z_imul dX8_stores_81 ?_)))))
          refine z_iadd dX8_stores_82 (z_iconst dX8_stores_83 zi_1 (z_iadd dX8_stores_84 (z_iload_n 4 dX8_stores_85 rfl ?_)))
          refine z_chk (fun c17 => ?_)
          refine z_iast (zW_arr hW h0 1 0 rfl) c17 dX8_stores_86 (z_letw (fun w18 => ?_))
          refine z_aload_n 2 dX8_stores_87 rfl (z_getR zc8 1 (by decide) rfl gw1108 h0 (zW_some hW h0 1 rfl) dX8_stores_88 (z_sipush dX8_stores_91 zs_139 (z_iconst dX8_stores_94 zi_4 (z_iload_n 1 dX8_stores_95 rfl (z_imul dX8_stores_96 ?_)))))
          refine z_iadd dX8_stores_97 (z_iconst dX8_stores_98 zi_3 (z_iadd dX8_stores_99 (z_iconst dX8_stores_100 zi_0 ?_)))
          refine z_chk (fun c19 => ?_)
          refine z_iast (zW_arr hW h0 1 0 rfl) c19 dX8_stores_101 (z_letw (fun w20 => ?_))
          refine z_aload_n 2 dX8_stores_102 rfl (z_getR zc8 1 (by decide) rfl gw1108 h0 (zW_some hW h0 1 rfl) dX8_stores_103 (z_iconst dX8_stores_106 zi_1 (z_dup2_11 dX8_stores_107 rfl rfl ?_)))
          refine z_chk (fun c21 => ?_)
          refine z_iald (zW_arr hW h0 1 0 rfl) c21 dX8_stores_108 (z_iconst dX8_stores_109 zi_1 (z_iadd dX8_stores_110 ?_))
          refine z_chk (fun c22 => ?_)
          refine z_iast (zW_arr hW h0 1 0 rfl) c22 dX8_stores_111 (z_letw (fun w23 => ?_))
          refine z_aload_n 2 dX8_stores_112 rfl (z_iload_n 1 dX8_stores_113 rfl (z_iload 0 dX8_stores_114 rfl ?_))
          refine z_bind (fun r24 hb25 => ?_)
          refine z_callV (kc' := 0) (ks' := 0) (v := none) (S1 := S) (w1 := r24.2) (st := []) [.int z10, .int v12] (m_X8_bringsIn hW w23 a0 h0 z10 v12 r24 hb25) zc8 h0 zy_X8_bringsIn gw1259 gp34 gw1257 (Nat.le_of_ble_eq_true rfl) (Nat.le_of_ble_eq_true rfl) (Nat.le_of_ble_eq_true rfl) (Nat.le_of_ble_eq_true rfl) (zal hW) rfl dX8_stores_116 (z_at 119 _ [] rfl rfl rfl ?_)
          refine z_iload 0 dX8_stores_119 rfl ?_
          exact z_iret zemW rfl dX8_stores_121
        · refine z_aload_n 2 dX8_stores_53 rfl (z_iconst dX8_stores_54 zi_3 ?_)
          refine z_bind (fun r26 hb27 => ?_)
          refine z_callV (kc' := 0) (ks' := 0) (v := (some (.int r26.1))) (S1 := S) (w1 := r26.2) (st := []) [.int (3 : Int32)] (m_X8_fails hW w a0 h0 (3 : Int32) r26 hb27) zc8 h0 zy_X8_fails gw1215 gp27 gw1213 (Nat.le_of_ble_eq_true rfl) (Nat.le_of_ble_eq_true rfl) (Nat.le_of_ble_eq_true rfl) (Nat.le_of_ble_eq_true rfl) (zal hW) rfl dX8_stores_55 (z_at 58 _ [.int r26.1] rfl rfl rfl ?_)
          exact z_iret zemW rfl dX8_stores_58
      · refine z_aload_n 1 dX8_stores_33 rfl (z_iconst dX8_stores_34 zi_2 ?_)
        refine z_bind (fun r28 hb29 => ?_)
        refine z_callV (kc' := 0) (ks' := 0) (v := (some (.int r28.1))) (S1 := S) (w1 := r28.2) (st := []) [.int (2 : Int32)] (m_X8_fails hW w a0 h0 (2 : Int32) r28 hb29) zc8 h0 zy_X8_fails gw1215 gp27 gw1213 (Nat.le_of_ble_eq_true rfl) (Nat.le_of_ble_eq_true rfl) (Nat.le_of_ble_eq_true rfl) (Nat.le_of_ble_eq_true rfl) (zal hW) rfl dX8_stores_35 (z_at 38 _ [.int r28.1] rfl rfl rfl ?_)
        exact z_iret zemW rfl dX8_stores_38
    · refine z_sub (lv' := [(0, .ref a0)]) [0] rfl ?_
      refine z_pc (pc' := 14) rfl ?_
      exact m_X8_stores_j14 hW w a0 h0 

theorem m_X8_stores {E : ZE} {S : Zs} (hW : zWF S) (w : Zw) (a0 : Nat) (h0 : zObj S a0 8) (a1 : Int32) (a2 : Int32) : ∀ i, f_X8_stores S w a0 a1 a2 = some i → zMr E yX8_stores cX8_stores 5 ((some .int)) 9 0 0 [.ref a0, .int a1, .int a2] S w ((emW eI S) i) :=
  fun i hi => z_enter (by decide +kernel) (Nat.le_of_ble_eq_true rfl) (mw_X8_stores hW w a0 h0 a1 a2 i hi)
end ZFN
