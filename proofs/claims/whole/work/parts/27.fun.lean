section ZFN
/-! ParkingRobotModel.undo ()I : W, depth 1 -/
abbrev i_X8_undo : Zm := (yX8_undo.cls, cX8_undo, 1, (some .int), [], yX8_undo.name)
def f_X8_undo (S : Zs) (w : Zw) (a0 : Nat) : Option (Int32 × Zw) :=
  zlet (zput w a0 0 (0 : Int32)) fun w1 => if (w1 a0 6) = 0 then (f_X8_fails S w1 a0 (1 : Int32)).bind fun r6 => some (r6.1, r6.2) else (zlet (zput w1 a0 6 ((w1 a0 6) - (1 : Int32))) fun w3 => (f_X8_copies S w3 (zr S a0 5) ((399 : Int32) * (w3 a0 6)) (zr S a0 1) (0 : Int32)).bind fun r4 => some ((r4.2 a0 6), r4.2))
theorem mw_X8_undo {E : ZE} {S : Zs} (hW : zWF S) (w : Zw) (a0 : Nat) (h0 : zObj S a0 8) : zOk (E, i_X8_undo, 1) 0 0 S w 0 [(0, .ref a0)] [] (emW eI S) (f_X8_undo S w a0) := by
  unfold f_X8_undo
  refine z_aload_n 0 dX8_undo_0 rfl (z_iconst dX8_undo_1 zi_0 ?_)
  refine z_putI zc8 0 (by decide) (Or.inl rfl) rfl gw1107 h0 dX8_undo_2 (z_letw (fun w1 => ?_))
  refine z_aload_n 0 dX8_undo_5 rfl (z_getI zc8 6 (by decide) rfl gw1113 h0 dX8_undo_6 ?_)
  refine z_if_ne 18 dX8_undo_9 rfl (fun q2 => ?_) (fun q2 => ?_)
  · refine z_aload_n 0 dX8_undo_18 rfl (z_dup dX8_undo_19 rfl (z_getI zc8 6 (by decide) rfl gw1113 h0 dX8_undo_20 (z_iconst dX8_undo_23 zi_1 (z_isub dX8_undo_24 ?_))))
    refine z_putI zc8 6 (by decide) (Or.inl rfl) rfl gw1113 h0 dX8_undo_25 (z_letw (fun w3 => ?_))
    refine z_aload_n 0 dX8_undo_28 rfl (z_getR zc8 5 (by decide) rfl gw1112 h0 (zW_some hW h0 5 rfl) dX8_undo_29 (z_sipush dX8_undo_32 zs_399 (z_aload_n 0 dX8_undo_35 rfl (z_getI zc8 6 (by decide) rfl gw1113 h0 dX8_undo_36 (z_imul dX8_undo_39 ?_)))))
    refine z_aload_n 0 dX8_undo_40 rfl (z_getR zc8 1 (by decide) rfl gw1108 h0 (zW_some hW h0 1 rfl) dX8_undo_41 (z_iconst dX8_undo_44 zi_0 ?_))
    refine z_bind (fun r4 hb5 => ?_)
    refine z_callS (kc' := 0) (ks' := 0) (v := none) (S1 := S) (w1 := r4.2) (st := []) [.ref (zr S a0 5), .int ((399 : Int32) * (w3 a0 6)), .ref (zr S a0 1), .int (0 : Int32)] (m_X8_copies hW w3 (zr S a0 5) (zW_arr hW h0 5 0 rfl) ((399 : Int32) * (w3 a0 6)) (zr S a0 1) (zW_arr hW h0 1 0 rfl) (0 : Int32) r4 hb5) zy_X8_copies gw1198 gw1197 (Nat.le_of_ble_eq_true rfl) (Nat.le_of_ble_eq_true rfl) (Nat.le_of_ble_eq_true rfl) (Nat.le_of_ble_eq_true rfl) (zal hW) rfl dX8_undo_45 (z_at 48 _ [] rfl rfl rfl ?_)
    refine z_aload_n 0 dX8_undo_48 rfl (z_getI zc8 6 (by decide) rfl gw1113 h0 dX8_undo_49 ?_)
    exact z_iret zemW rfl dX8_undo_52
  · refine z_aload_n 0 dX8_undo_12 rfl (z_iconst dX8_undo_13 zi_1 ?_)
    refine z_bind (fun r6 hb7 => ?_)
    refine z_callV (kc' := 0) (ks' := 0) (v := (some (.int r6.1))) (S1 := S) (w1 := r6.2) (st := []) [.int (1 : Int32)] (m_X8_fails hW w1 a0 h0 (1 : Int32) r6 hb7) zc8 h0 zy_X8_fails gw1215 gp27 gw1213 (Nat.le_of_ble_eq_true rfl) (Nat.le_of_ble_eq_true rfl) (Nat.le_of_ble_eq_true rfl) (Nat.le_of_ble_eq_true rfl) (zal hW) rfl dX8_undo_14 (z_at 17 _ [.int r6.1] rfl rfl rfl ?_)
    exact z_iret zemW rfl dX8_undo_17

theorem m_X8_undo {E : ZE} {S : Zs} (hW : zWF S) (w : Zw) (a0 : Nat) (h0 : zObj S a0 8) : ∀ i, f_X8_undo S w a0 = some i → zMr E yX8_undo cX8_undo 1 ((some .int)) 1 0 0 [.ref a0] S w ((emW eI S) i) :=
  fun i hi => z_enter (by decide +kernel) (Nat.le_of_ble_eq_true rfl) (mw_X8_undo hW w a0 h0 i hi)
end ZFN
