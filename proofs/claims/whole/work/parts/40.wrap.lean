section ZWR
/-! law: L_store -/
abbrev i_L_store : Zm := (yL_store.cls, cL_store, 5, (some .int), [(0, 10, 13, 13), (0, 10, 17, 15), (0, 10, 21, 17)], yL_store.name)
def f_L_store (S : Zs) (w : Zw) (a0 : Nat) (a1 : Int32) (a2 : Int32) (a3 : Nat) : Option (Int32 × (Nat → Nat → Int64) × (Nat → Nat → UInt64) × Zw) :=
  zbx (f_X7_store S w a0 a1 a2) (fun v1 w2 => if zin (0 : Int32) (zlen S a3) = true then some ((0 : Int32), (zup S.cl a3 (zix (0 : Int32)) ((v1).toInt64)), S.cd, w2) else none) (fun e w9 => if e = "java/lang/IllegalArgumentException" then some ((1 : Int32), S.cl, S.cd, w9) else if e = "java/lang/IllegalStateException" then some ((2 : Int32), S.cl, S.cd, w9) else if e = "java/lang/UnsupportedOperationException" then some ((3 : Int32), S.cl, S.cd, w9) else none)
theorem mw_L_store {E : ZE} {S : Zs} (hW : zWF S) (w : Zw) (a0 : Nat) (h0 : zObj S a0 7) (a1 : Int32) (a2 : Int32) (a3 : Nat) (h3 : zArr S a3 3) : zOk (E, i_L_store, 11) 2 12 S w 0 [(0, .ref a0), (1, .int a1), (2, .int a2), (3, .ref a3)] [] (emS eI S) (f_L_store S w a0 a1 a2 a3) := by
  unfold f_L_store
  refine z_aload_n 3 dL_store_0 rfl (z_iconst dL_store_1 zi_0 (z_aload_n 0 dL_store_2 rfl (z_iload_n 1 dL_store_3 rfl (z_iload_n 2 dL_store_4 rfl ?_))))
  refine z_bindX (fun j9 hb3 => ?_)
  obtain ⟨v1 | e4, w2⟩ := j9
  case inr =>
    dsimp only [zbx]
    refine z_ite _ (fun qx => ?_) (fun qx => ?_)
    · subst qx
      refine z_callVXt (hp := 13) (k := 4) (len := 2) (lv' := [(0, .ref a0), (1, .int a1), (2, .int a2), (3, .ref a3)]) (kc' := 0) (ks' := 0) (st := [.int (0 : Int32), .ref a3]) [.int a1, .int a2] (m_X7_store hW w a0 h0 a1 a2 _ hb3) zc7 h0 zy_X7_store gw417 gw418 gw416 (Nat.le_of_ble_eq_true rfl) (Nat.le_of_ble_eq_true rfl) (Nat.le_of_ble_eq_true rfl) (Nat.le_of_ble_eq_true rfl) (zal hW) rfl dL_store_5 ⟨tableOf [], _, tableOf [(0, 10, 17, 15), (0, 10, 21, 17)], rfl, zCt1_ok _ trivial, rfl, by decide, rfl, gw413, by decide +kernel⟩ (Or.inr ⟨dL_store_13, rfl⟩) (Nat.le_of_ble_eq_true rfl) rfl ?_
      refine z_iconst dL_store_15 zi_1 ?_
      exact z_iret zemS rfl dL_store_16
    refine z_ite _ (fun qx => ?_) (fun qx => ?_)
    · subst qx
      refine z_callVXt (hp := 17) (k := 4) (len := 2) (lv' := [(0, .ref a0), (1, .int a1), (2, .int a2), (3, .ref a3)]) (kc' := 0) (ks' := 0) (st := [.int (0 : Int32), .ref a3]) [.int a1, .int a2] (m_X7_store hW w a0 h0 a1 a2 _ hb3) zc7 h0 zy_X7_store gw417 gw418 gw416 (Nat.le_of_ble_eq_true rfl) (Nat.le_of_ble_eq_true rfl) (Nat.le_of_ble_eq_true rfl) (Nat.le_of_ble_eq_true rfl) (zal hW) rfl dL_store_5 ⟨tableOf [(0, 10, 13, 13)], _, tableOf [(0, 10, 21, 17)], rfl, zCt1_ok _ ⟨⟨by decide, "java/lang/IllegalArgumentException", gw413, by decide +kernel⟩, trivial⟩, rfl, by decide, rfl, gw414, by decide +kernel⟩ (Or.inr ⟨dL_store_17, rfl⟩) (Nat.le_of_ble_eq_true rfl) rfl ?_
      refine z_iconst dL_store_19 zi_2 ?_
      exact z_iret zemS rfl dL_store_20
    refine z_ite _ (fun qx => ?_) (fun qx => ?_)
    · subst qx
      refine z_callVXt (hp := 21) (k := 4) (len := 2) (lv' := [(0, .ref a0), (1, .int a1), (2, .int a2), (3, .ref a3)]) (kc' := 0) (ks' := 0) (st := [.int (0 : Int32), .ref a3]) [.int a1, .int a2] (m_X7_store hW w a0 h0 a1 a2 _ hb3) zc7 h0 zy_X7_store gw417 gw418 gw416 (Nat.le_of_ble_eq_true rfl) (Nat.le_of_ble_eq_true rfl) (Nat.le_of_ble_eq_true rfl) (Nat.le_of_ble_eq_true rfl) (zal hW) rfl dL_store_5 ⟨tableOf [(0, 10, 13, 13), (0, 10, 17, 15)], _, tableOf [], rfl, zCt1_ok _ ⟨⟨by decide, "java/lang/IllegalArgumentException", gw413, by decide +kernel⟩, ⟨⟨by decide, "java/lang/IllegalStateException", gw414, by decide +kernel⟩, trivial⟩⟩, rfl, by decide, rfl, gw415, by decide +kernel⟩ (Or.inr ⟨dL_store_21, rfl⟩) (Nat.le_of_ble_eq_true rfl) rfl ?_
      refine z_iconst dL_store_23 zi_3 ?_
      exact z_iret zemS rfl dL_store_24
    exact z_none
  refine z_callVXr (kc' := 0) (ks' := 0) (v := (some (.int v1))) (S1 := S) (w1 := w2) (st := [.int (0 : Int32), .ref a3]) [.int a1, .int a2] (m_X7_store hW w a0 h0 a1 a2 _ hb3) zc7 h0 zy_X7_store gw417 gw418 gw416 (Nat.le_of_ble_eq_true rfl) (Nat.le_of_ble_eq_true rfl) (Nat.le_of_ble_eq_true rfl) (Nat.le_of_ble_eq_true rfl) (zal hW) rfl dL_store_5 (z_at 8 _ [.int v1, .int (0 : Int32), .ref a3] rfl rfl rfl ?_)
  dsimp only [zbx]
  refine z_i2l (v := (v1).toInt64) dL_store_8 rfl ?_
  refine z_chk (fun c5 => ?_)
  refine z_last h3 c5 dL_store_9 ?_
  refine z_goto 25 dL_store_10 rfl (z_iconst dL_store_25 zi_0 ?_)
  exact z_iret zemSc rfl dL_store_26

theorem zy_L_store : zYh yL_store cL_store 5 (some .int) [(0, 10, 13, 13), (0, 10, 17, 15), (0, 10, 21, 17)] 4 := ⟨gw412, gw0, ⟨by decide +kernel, by decide +kernel, by decide +kernel⟩, (Nat.le_of_ble_eq_true rfl)⟩
theorem m_L_store {E : ZE} {S : Zs} (hW : zWF S) (w : Zw) (a0 : Nat) (h0 : zObj S a0 7) (a1 : Int32) (a2 : Int32) (a3 : Nat) (h3 : zArr S a3 3) : ∀ i, f_L_store S w a0 a1 a2 a3 = some i → zMh E yL_store cL_store 5 (some .int) [(0, 10, 13, 13), (0, 10, 17, 15), (0, 10, 21, 17)] 11 2 12 [.ref a0, .int a1, .int a2, .ref a3] S w ((emS eI S) i) :=
  fun i hi => z_enterH (by decide +kernel) (Nat.le_of_ble_eq_true rfl) (mw_L_store hW w a0 h0 a1 a2 a3 h3 i hi)
/-! law: L_retrieve -/
abbrev i_L_retrieve : Zm := (yL_retrieve.cls, cL_retrieve, 4, (some .int), [(0, 9, 12, 23), (0, 9, 15, 17)], yL_retrieve.name)
def f_L_retrieve (S : Zs) (w : Zw) (a0 : Nat) (a1 : Int32) (a2 : Nat) : Option (Int32 × (Nat → Nat → Int64) × (Nat → Nat → UInt64) × Zw) :=
  zbx (f_X7_retrieve S w a0 a1) (fun v1 w2 => if zin (0 : Int32) (zlen S a2) = true then some ((0 : Int32), (zup S.cl a2 (zix (0 : Int32)) ((v1).toInt64)), S.cd, w2) else none) (fun e w9 => if e = "java/lang/IndexOutOfBoundsException" then some ((1 : Int32), S.cl, S.cd, w9) else if e = "java/lang/UnsupportedOperationException" then some ((2 : Int32), S.cl, S.cd, w9) else none)
theorem mw_L_retrieve {E : ZE} {S : Zs} (hW : zWF S) (w : Zw) (a0 : Nat) (h0 : zObj S a0 7) (a1 : Int32) (a2 : Nat) (h2 : zArr S a2 3) : zOk (E, i_L_retrieve, 12) 2 12 S w 0 [(0, .ref a0), (1, .int a1), (2, .ref a2)] [] (emS eI S) (f_L_retrieve S w a0 a1 a2) := by
  unfold f_L_retrieve
  refine z_aload_n 2 dL_retrieve_0 rfl (z_iconst dL_retrieve_1 zi_0 (z_aload_n 0 dL_retrieve_2 rfl (z_iload_n 1 dL_retrieve_3 rfl ?_)))
  refine z_bindX (fun j9 hb3 => ?_)
  obtain ⟨v1 | e4, w2⟩ := j9
  case inr =>
    dsimp only [zbx]
    refine z_ite _ (fun qx => ?_) (fun qx => ?_)
    · subst qx
      refine z_callVXt (hp := 12) (k := 3) (len := 1) (lv' := [(0, .ref a0), (1, .int a1), (2, .ref a2)]) (kc' := 0) (ks' := 0) (st := [.int (0 : Int32), .ref a2]) [.int a1] (m_X7_retrieve hW w a0 h0 a1 _ hb3) zc7 h0 zy_X7_retrieve gw572 gw573 gw571 (Nat.le_of_ble_eq_true rfl) (Nat.le_of_ble_eq_true rfl) (Nat.le_of_ble_eq_true rfl) (Nat.le_of_ble_eq_true rfl) (zal hW) rfl dL_retrieve_4 ⟨tableOf [], _, tableOf [(0, 9, 15, 17)], rfl, zCt1_ok _ trivial, rfl, by decide, rfl, gw547, by decide +kernel⟩ (Or.inl ⟨3, rfl, dL_retrieve_12, rfl⟩) (Nat.le_of_ble_eq_true rfl) rfl ?_
      refine z_iconst dL_retrieve_13 zi_1 ?_
      exact z_iret zemS rfl dL_retrieve_14
    refine z_ite _ (fun qx => ?_) (fun qx => ?_)
    · subst qx
      refine z_callVXt (hp := 15) (k := 3) (len := 1) (lv' := [(0, .ref a0), (1, .int a1), (2, .ref a2)]) (kc' := 0) (ks' := 0) (st := [.int (0 : Int32), .ref a2]) [.int a1] (m_X7_retrieve hW w a0 h0 a1 _ hb3) zc7 h0 zy_X7_retrieve gw572 gw573 gw571 (Nat.le_of_ble_eq_true rfl) (Nat.le_of_ble_eq_true rfl) (Nat.le_of_ble_eq_true rfl) (Nat.le_of_ble_eq_true rfl) (zal hW) rfl dL_retrieve_4 ⟨tableOf [(0, 9, 12, 23)], _, tableOf [], rfl, zCt1_ok _ ⟨⟨by decide, "java/lang/IndexOutOfBoundsException", gw547, by decide +kernel⟩, trivial⟩, rfl, by decide, rfl, gw415, by decide +kernel⟩ (Or.inl ⟨3, rfl, dL_retrieve_15, rfl⟩) (Nat.le_of_ble_eq_true rfl) rfl ?_
      refine z_iconst dL_retrieve_16 zi_2 ?_
      exact z_iret zemS rfl dL_retrieve_17
    exact z_none
  refine z_callVXr (kc' := 0) (ks' := 0) (v := (some (.int v1))) (S1 := S) (w1 := w2) (st := [.int (0 : Int32), .ref a2]) [.int a1] (m_X7_retrieve hW w a0 h0 a1 _ hb3) zc7 h0 zy_X7_retrieve gw572 gw573 gw571 (Nat.le_of_ble_eq_true rfl) (Nat.le_of_ble_eq_true rfl) (Nat.le_of_ble_eq_true rfl) (Nat.le_of_ble_eq_true rfl) (zal hW) rfl dL_retrieve_4 (z_at 7 _ [.int v1, .int (0 : Int32), .ref a2] rfl rfl rfl ?_)
  dsimp only [zbx]
  refine z_i2l (v := (v1).toInt64) dL_retrieve_7 rfl ?_
  refine z_chk (fun c5 => ?_)
  refine z_last h2 c5 dL_retrieve_8 ?_
  refine z_goto 18 dL_retrieve_9 rfl (z_iconst dL_retrieve_18 zi_0 ?_)
  exact z_iret zemSc rfl dL_retrieve_19

theorem zy_L_retrieve : zYh yL_retrieve cL_retrieve 4 (some .int) [(0, 9, 12, 23), (0, 9, 15, 17)] 3 := ⟨gw546, gw0, ⟨by decide +kernel, by decide +kernel, by decide +kernel⟩, (Nat.le_of_ble_eq_true rfl)⟩
theorem m_L_retrieve {E : ZE} {S : Zs} (hW : zWF S) (w : Zw) (a0 : Nat) (h0 : zObj S a0 7) (a1 : Int32) (a2 : Nat) (h2 : zArr S a2 3) : ∀ i, f_L_retrieve S w a0 a1 a2 = some i → zMh E yL_retrieve cL_retrieve 4 (some .int) [(0, 9, 12, 23), (0, 9, 15, 17)] 12 2 12 [.ref a0, .int a1, .ref a2] S w ((emS eI S) i) :=
  fun i hi => z_enterH (by decide +kernel) (Nat.le_of_ble_eq_true rfl) (mw_L_retrieve hW w a0 h0 a1 a2 h2 i hi)
/-! law: L_book -/
abbrev i_L_book : Zm := (yL_book.cls, cL_book, 5, (some .int), [(0, 10, 13, 23), (0, 10, 17, 13)], yL_book.name)
def f_L_book (S : Zs) (w : Zw) (a0 : Nat) (a1 : Int32) (a2 : Int32) (a3 : Nat) : Option (Int32 × (Nat → Nat → Int64) × (Nat → Nat → UInt64) × Zw) :=
  zbx (f_X7_book S w a0 a1 a2) (fun v1 w2 => if zin (0 : Int32) (zlen S a3) = true then some ((0 : Int32), (zup S.cl a3 (zix (0 : Int32)) ((v1).toInt64)), S.cd, w2) else none) (fun e w9 => if e = "java/lang/IndexOutOfBoundsException" then some ((1 : Int32), S.cl, S.cd, w9) else if e = "java/lang/IllegalArgumentException" then some ((2 : Int32), S.cl, S.cd, w9) else none)
theorem mw_L_book {E : ZE} {S : Zs} (hW : zWF S) (w : Zw) (a0 : Nat) (h0 : zObj S a0 7) (a1 : Int32) (a2 : Int32) (a3 : Nat) (h3 : zArr S a3 3) : zOk (E, i_L_book, 11) 2 12 S w 0 [(0, .ref a0), (1, .int a1), (2, .int a2), (3, .ref a3)] [] (emS eI S) (f_L_book S w a0 a1 a2 a3) := by
  unfold f_L_book
  refine z_aload_n 3 dL_book_0 rfl (z_iconst dL_book_1 zi_0 (z_aload_n 0 dL_book_2 rfl (z_iload_n 1 dL_book_3 rfl (z_iload_n 2 dL_book_4 rfl ?_))))
  refine z_bindX (fun j9 hb3 => ?_)
  obtain ⟨v1 | e4, w2⟩ := j9
  case inr =>
    dsimp only [zbx]
    refine z_ite _ (fun qx => ?_) (fun qx => ?_)
    · subst qx
      refine z_callVXt (hp := 13) (k := 4) (len := 2) (lv' := [(0, .ref a0), (1, .int a1), (2, .int a2), (3, .ref a3)]) (kc' := 0) (ks' := 0) (st := [.int (0 : Int32), .ref a3]) [.int a1, .int a2] (m_X7_book hW w a0 h0 a1 a2 _ hb3) zc7 h0 zy_X7_book gw619 gw620 gw618 (Nat.le_of_ble_eq_true rfl) (Nat.le_of_ble_eq_true rfl) (Nat.le_of_ble_eq_true rfl) (Nat.le_of_ble_eq_true rfl) (zal hW) rfl dL_book_5 ⟨tableOf [], _, tableOf [(0, 10, 17, 13)], rfl, zCt1_ok _ trivial, rfl, by decide, rfl, gw547, by decide +kernel⟩ (Or.inr ⟨dL_book_13, rfl⟩) (Nat.le_of_ble_eq_true rfl) rfl ?_
      refine z_iconst dL_book_15 zi_1 ?_
      exact z_iret zemS rfl dL_book_16
    refine z_ite _ (fun qx => ?_) (fun qx => ?_)
    · subst qx
      refine z_callVXt (hp := 17) (k := 4) (len := 2) (lv' := [(0, .ref a0), (1, .int a1), (2, .int a2), (3, .ref a3)]) (kc' := 0) (ks' := 0) (st := [.int (0 : Int32), .ref a3]) [.int a1, .int a2] (m_X7_book hW w a0 h0 a1 a2 _ hb3) zc7 h0 zy_X7_book gw619 gw620 gw618 (Nat.le_of_ble_eq_true rfl) (Nat.le_of_ble_eq_true rfl) (Nat.le_of_ble_eq_true rfl) (Nat.le_of_ble_eq_true rfl) (zal hW) rfl dL_book_5 ⟨tableOf [(0, 10, 13, 23)], _, tableOf [], rfl, zCt1_ok _ ⟨⟨by decide, "java/lang/IndexOutOfBoundsException", gw547, by decide +kernel⟩, trivial⟩, rfl, by decide, rfl, gw413, by decide +kernel⟩ (Or.inr ⟨dL_book_17, rfl⟩) (Nat.le_of_ble_eq_true rfl) rfl ?_
      refine z_iconst dL_book_19 zi_2 ?_
      exact z_iret zemS rfl dL_book_20
    exact z_none
  refine z_callVXr (kc' := 0) (ks' := 0) (v := (some (.int v1))) (S1 := S) (w1 := w2) (st := [.int (0 : Int32), .ref a3]) [.int a1, .int a2] (m_X7_book hW w a0 h0 a1 a2 _ hb3) zc7 h0 zy_X7_book gw619 gw620 gw618 (Nat.le_of_ble_eq_true rfl) (Nat.le_of_ble_eq_true rfl) (Nat.le_of_ble_eq_true rfl) (Nat.le_of_ble_eq_true rfl) (zal hW) rfl dL_book_5 (z_at 8 _ [.int v1, .int (0 : Int32), .ref a3] rfl rfl rfl ?_)
  dsimp only [zbx]
  refine z_i2l (v := (v1).toInt64) dL_book_8 rfl ?_
  refine z_chk (fun c5 => ?_)
  refine z_last h3 c5 dL_book_9 ?_
  refine z_goto 21 dL_book_10 rfl (z_iconst dL_book_21 zi_0 ?_)
  exact z_iret zemSc rfl dL_book_22

theorem zy_L_book : zYh yL_book cL_book 5 (some .int) [(0, 10, 13, 23), (0, 10, 17, 13)] 4 := ⟨gw617, gw0, ⟨by decide +kernel, by decide +kernel, by decide +kernel⟩, (Nat.le_of_ble_eq_true rfl)⟩
theorem m_L_book {E : ZE} {S : Zs} (hW : zWF S) (w : Zw) (a0 : Nat) (h0 : zObj S a0 7) (a1 : Int32) (a2 : Int32) (a3 : Nat) (h3 : zArr S a3 3) : ∀ i, f_L_book S w a0 a1 a2 a3 = some i → zMh E yL_book cL_book 5 (some .int) [(0, 10, 13, 23), (0, 10, 17, 13)] 11 2 12 [.ref a0, .int a1, .int a2, .ref a3] S w ((emS eI S) i) :=
  fun i hi => z_enterH (by decide +kernel) (Nat.le_of_ble_eq_true rfl) (mw_L_book hW w a0 h0 a1 a2 a3 h3 i hi)
/-! law: L_car -/
abbrev i_L_car : Zm := (yL_car.cls, cL_car, 5, (some .int), [(0, 10, 13, 23), (0, 10, 17, 13)], yL_car.name)
def f_L_car (S : Zs) (w : Zw) (a0 : Nat) (a1 : Int32) (a2 : Int32) (a3 : Nat) : Option (Int32 × (Nat → Nat → Int64) × (Nat → Nat → UInt64) × Zw) :=
  zbx (f_X7_car S w a0 a1 a2) (fun v1 w2 => if zin (0 : Int32) (zlen S a3) = true then some ((0 : Int32), (zup S.cl a3 (zix (0 : Int32)) ((v1).toInt64)), S.cd, w2) else none) (fun e w9 => if e = "java/lang/IndexOutOfBoundsException" then some ((1 : Int32), S.cl, S.cd, w9) else if e = "java/lang/IllegalArgumentException" then some ((2 : Int32), S.cl, S.cd, w9) else none)
theorem mw_L_car {E : ZE} {S : Zs} (hW : zWF S) (w : Zw) (a0 : Nat) (h0 : zObj S a0 7) (a1 : Int32) (a2 : Int32) (a3 : Nat) (h3 : zArr S a3 3) : zOk (E, i_L_car, 8) 2 12 S w 0 [(0, .ref a0), (1, .int a1), (2, .int a2), (3, .ref a3)] [] (emS eI S) (f_L_car S w a0 a1 a2 a3) := by
  unfold f_L_car
  refine z_aload_n 3 dL_car_0 rfl (z_iconst dL_car_1 zi_0 (z_aload_n 0 dL_car_2 rfl (z_iload_n 1 dL_car_3 rfl (z_iload_n 2 dL_car_4 rfl ?_))))
  refine z_bindX (fun j9 hb3 => ?_)
  obtain ⟨v1 | e4, w2⟩ := j9
  case inr =>
    dsimp only [zbx]
    refine z_ite _ (fun qx => ?_) (fun qx => ?_)
    · subst qx
      refine z_callVXt (hp := 13) (k := 4) (len := 2) (lv' := [(0, .ref a0), (1, .int a1), (2, .int a2), (3, .ref a3)]) (kc' := 0) (ks' := 0) (st := [.int (0 : Int32), .ref a3]) [.int a1, .int a2] (m_X7_car hW w a0 h0 a1 a2 _ hb3) zc7 h0 zy_X7_car gw635 gw636 gw634 (Nat.le_of_ble_eq_true rfl) (Nat.le_of_ble_eq_true rfl) (Nat.le_of_ble_eq_true rfl) (Nat.le_of_ble_eq_true rfl) (zal hW) rfl dL_car_5 ⟨tableOf [], _, tableOf [(0, 10, 17, 13)], rfl, zCt1_ok _ trivial, rfl, by decide, rfl, gw547, by decide +kernel⟩ (Or.inr ⟨dL_car_13, rfl⟩) (Nat.le_of_ble_eq_true rfl) rfl ?_
      refine z_iconst dL_car_15 zi_1 ?_
      exact z_iret zemS rfl dL_car_16
    refine z_ite _ (fun qx => ?_) (fun qx => ?_)
    · subst qx
      refine z_callVXt (hp := 17) (k := 4) (len := 2) (lv' := [(0, .ref a0), (1, .int a1), (2, .int a2), (3, .ref a3)]) (kc' := 0) (ks' := 0) (st := [.int (0 : Int32), .ref a3]) [.int a1, .int a2] (m_X7_car hW w a0 h0 a1 a2 _ hb3) zc7 h0 zy_X7_car gw635 gw636 gw634 (Nat.le_of_ble_eq_true rfl) (Nat.le_of_ble_eq_true rfl) (Nat.le_of_ble_eq_true rfl) (Nat.le_of_ble_eq_true rfl) (zal hW) rfl dL_car_5 ⟨tableOf [(0, 10, 13, 23)], _, tableOf [], rfl, zCt1_ok _ ⟨⟨by decide, "java/lang/IndexOutOfBoundsException", gw547, by decide +kernel⟩, trivial⟩, rfl, by decide, rfl, gw413, by decide +kernel⟩ (Or.inr ⟨dL_car_17, rfl⟩) (Nat.le_of_ble_eq_true rfl) rfl ?_
      refine z_iconst dL_car_19 zi_2 ?_
      exact z_iret zemS rfl dL_car_20
    exact z_none
  refine z_callVXr (kc' := 0) (ks' := 0) (v := (some (.int v1))) (S1 := S) (w1 := w2) (st := [.int (0 : Int32), .ref a3]) [.int a1, .int a2] (m_X7_car hW w a0 h0 a1 a2 _ hb3) zc7 h0 zy_X7_car gw635 gw636 gw634 (Nat.le_of_ble_eq_true rfl) (Nat.le_of_ble_eq_true rfl) (Nat.le_of_ble_eq_true rfl) (Nat.le_of_ble_eq_true rfl) (zal hW) rfl dL_car_5 (z_at 8 _ [.int v1, .int (0 : Int32), .ref a3] rfl rfl rfl ?_)
  dsimp only [zbx]
  refine z_i2l (v := (v1).toInt64) dL_car_8 rfl ?_
  refine z_chk (fun c5 => ?_)
  refine z_last h3 c5 dL_car_9 ?_
  refine z_goto 21 dL_car_10 rfl (z_iconst dL_car_21 zi_0 ?_)
  exact z_iret zemSc rfl dL_car_22

theorem zy_L_car : zYh yL_car cL_car 5 (some .int) [(0, 10, 13, 23), (0, 10, 17, 13)] 4 := ⟨gw633, gw0, ⟨by decide +kernel, by decide +kernel, by decide +kernel⟩, (Nat.le_of_ble_eq_true rfl)⟩
theorem m_L_car {E : ZE} {S : Zs} (hW : zWF S) (w : Zw) (a0 : Nat) (h0 : zObj S a0 7) (a1 : Int32) (a2 : Int32) (a3 : Nat) (h3 : zArr S a3 3) : ∀ i, f_L_car S w a0 a1 a2 a3 = some i → zMh E yL_car cL_car 5 (some .int) [(0, 10, 13, 23), (0, 10, 17, 13)] 8 2 12 [.ref a0, .int a1, .int a2, .ref a3] S w ((emS eI S) i) :=
  fun i hi => z_enterH (by decide +kernel) (Nat.le_of_ble_eq_true rfl) (mw_L_car hW w a0 h0 a1 a2 a3 h3 i hi)
/-! law: L_due -/
abbrev i_L_due : Zm := (yL_due.cls, cL_due, 4, (some .int), [(0, 8, 11, 13)], yL_due.name)
def f_L_due (S : Zs) (w : Zw) (a0 : Nat) (a1 : Int32) (a2 : Nat) : Option (Int32 × (Nat → Nat → Int64) × (Nat → Nat → UInt64) × Zw) :=
  zbx (f_X7_due S w a0 a1) (fun v1 w2 => if zin (0 : Int32) (zlen S a2) = true then some ((0 : Int32), (zup S.cl a2 (zix (0 : Int32)) v1), S.cd, w2) else none) (fun e w9 => if e = "java/lang/IllegalArgumentException" then some ((1 : Int32), S.cl, S.cd, w9) else none)
theorem mw_L_due {E : ZE} {S : Zs} (hW : zWF S) (w : Zw) (a0 : Nat) (h0 : zObj S a0 7) (a1 : Int32) (a2 : Nat) (h2 : zArr S a2 3) : zOk (E, i_L_due, 8) 1 6 S w 0 [(0, .ref a0), (1, .int a1), (2, .ref a2)] [] (emS eI S) (f_L_due S w a0 a1 a2) := by
  unfold f_L_due
  refine z_aload_n 2 dL_due_0 rfl (z_iconst dL_due_1 zi_0 (z_aload_n 0 dL_due_2 rfl (z_iload_n 1 dL_due_3 rfl ?_)))
  refine z_bindX (fun j9 hb3 => ?_)
  obtain ⟨v1 | e4, w2⟩ := j9
  case inr =>
    dsimp only [zbx]
    refine z_ite _ (fun qx => ?_) (fun qx => ?_)
    · subst qx
      refine z_callVXt (hp := 11) (k := 3) (len := 1) (lv' := [(0, .ref a0), (1, .int a1), (2, .ref a2)]) (kc' := 0) (ks' := 0) (st := [.int (0 : Int32), .ref a2]) [.int a1] (m_X7_due hW w a0 h0 a1 _ hb3) zc7 h0 zy_X7_due gw659 gw660 gw658 (Nat.le_of_ble_eq_true rfl) (Nat.le_of_ble_eq_true rfl) (Nat.le_of_ble_eq_true rfl) (Nat.le_of_ble_eq_true rfl) (zal hW) rfl dL_due_4 ⟨tableOf [], _, tableOf [], rfl, zCt1_ok _ trivial, rfl, by decide, rfl, gw413, by decide +kernel⟩ (Or.inl ⟨3, rfl, dL_due_11, rfl⟩) (Nat.le_of_ble_eq_true rfl) rfl ?_
      refine z_iconst dL_due_12 zi_1 ?_
      exact z_iret zemS rfl dL_due_13
    exact z_none
  refine z_callVXr (kc' := 0) (ks' := 0) (v := (some (.long v1))) (S1 := S) (w1 := w2) (st := [.int (0 : Int32), .ref a2]) [.int a1] (m_X7_due hW w a0 h0 a1 _ hb3) zc7 h0 zy_X7_due gw659 gw660 gw658 (Nat.le_of_ble_eq_true rfl) (Nat.le_of_ble_eq_true rfl) (Nat.le_of_ble_eq_true rfl) (Nat.le_of_ble_eq_true rfl) (zal hW) rfl dL_due_4 (z_at 7 _ [.long v1, .int (0 : Int32), .ref a2] rfl rfl rfl ?_)
  dsimp only [zbx]
  refine z_chk (fun c5 => ?_)
  refine z_last h2 c5 dL_due_7 ?_
  refine z_goto 14 dL_due_8 rfl (z_iconst dL_due_14 zi_0 ?_)
  exact z_iret zemSc rfl dL_due_15

theorem zy_L_due : zYh yL_due cL_due 4 (some .int) [(0, 8, 11, 13)] 3 := ⟨gw657, gw0, ⟨by decide +kernel, by decide +kernel, by decide +kernel⟩, (Nat.le_of_ble_eq_true rfl)⟩
theorem m_L_due {E : ZE} {S : Zs} (hW : zWF S) (w : Zw) (a0 : Nat) (h0 : zObj S a0 7) (a1 : Int32) (a2 : Nat) (h2 : zArr S a2 3) : ∀ i, f_L_due S w a0 a1 a2 = some i → zMh E yL_due cL_due 4 (some .int) [(0, 8, 11, 13)] 8 1 6 [.ref a0, .int a1, .ref a2] S w ((emS eI S) i) :=
  fun i hi => z_enterH (by decide +kernel) (Nat.le_of_ble_eq_true rfl) (mw_L_due hW w a0 h0 a1 a2 h2 i hi)
/-! law: L_setClosed -/
abbrev i_L_setClosed : Zm := (yL_setClosed.cls, cL_setClosed, 5, (some .int), [(0, 17, 20, 23)], yL_setClosed.name)
def f_L_setClosed (S : Zs) (w : Zw) (a0 : Nat) (a1 : Int32) (a2 : Int32) (a3 : Nat) : Option (Int32 × (Nat → Nat → Int64) × (Nat → Nat → UInt64) × Zw) :=
  zbx (f_X7_setClosed S w a0 a1 a2) (fun v1 w2 => if v1 = 0 then (if zin (0 : Int32) (zlen S a3) = true then some ((0 : Int32), (zup S.cl a3 (zix (0 : Int32)) (0 : Int64)), S.cd, w2) else none) else if zin (0 : Int32) (zlen S a3) = true then some ((0 : Int32), (zup S.cl a3 (zix (0 : Int32)) (1 : Int64)), S.cd, w2) else none) (fun e w9 => if e = "java/lang/IndexOutOfBoundsException" then some ((1 : Int32), S.cl, S.cd, w9) else none)
theorem mw_L_setClosed {E : ZE} {S : Zs} (hW : zWF S) (w : Zw) (a0 : Nat) (h0 : zObj S a0 7) (a1 : Int32) (a2 : Int32) (a3 : Nat) (h3 : zArr S a3 3) : zOk (E, i_L_setClosed, 11) 1 6 S w 0 [(0, .ref a0), (1, .int a1), (2, .int a2), (3, .ref a3)] [] (emS eI S) (f_L_setClosed S w a0 a1 a2 a3) := by
  unfold f_L_setClosed
  refine z_aload_n 3 dL_setClosed_0 rfl (z_iconst dL_setClosed_1 zi_0 (z_aload_n 0 dL_setClosed_2 rfl (z_iload_n 1 dL_setClosed_3 rfl (z_iload_n 2 dL_setClosed_4 rfl ?_))))
  refine z_bindX (fun j9 hb3 => ?_)
  obtain ⟨v1 | e4, w2⟩ := j9
  case inr =>
    dsimp only [zbx]
    refine z_ite _ (fun qx => ?_) (fun qx => ?_)
    · subst qx
      refine z_callVXt (hp := 20) (k := 4) (len := 2) (lv' := [(0, .ref a0), (1, .int a1), (2, .int a2), (3, .ref a3)]) (kc' := 0) (ks' := 0) (st := [.int (0 : Int32), .ref a3]) [.int a1, .int a2] (m_X7_setClosed hW w a0 h0 a1 a2 _ hb3) zc7 h0 zy_X7_setClosed gw670 gw671 gw669 (Nat.le_of_ble_eq_true rfl) (Nat.le_of_ble_eq_true rfl) (Nat.le_of_ble_eq_true rfl) (Nat.le_of_ble_eq_true rfl) (zal hW) rfl dL_setClosed_5 ⟨tableOf [], _, tableOf [], rfl, zCt1_ok _ trivial, rfl, by decide, rfl, gw547, by decide +kernel⟩ (Or.inr ⟨dL_setClosed_20, rfl⟩) (Nat.le_of_ble_eq_true rfl) rfl ?_
      refine z_iconst dL_setClosed_22 zi_1 ?_
      exact z_iret zemS rfl dL_setClosed_23
    exact z_none
  refine z_callVXr (kc' := 0) (ks' := 0) (v := (some (.int v1))) (S1 := S) (w1 := w2) (st := [.int (0 : Int32), .ref a3]) [.int a1, .int a2] (m_X7_setClosed hW w a0 h0 a1 a2 _ hb3) zc7 h0 zy_X7_setClosed gw670 gw671 gw669 (Nat.le_of_ble_eq_true rfl) (Nat.le_of_ble_eq_true rfl) (Nat.le_of_ble_eq_true rfl) (Nat.le_of_ble_eq_true rfl) (zal hW) rfl dL_setClosed_5 (z_at 8 _ [.int v1, .int (0 : Int32), .ref a3] rfl rfl rfl ?_)
  dsimp only [zbx]
  refine z_if_eq 15 dL_setClosed_8 rfl (fun q5 => ?_) (fun q5 => ?_)
  · refine z_lconst dL_setClosed_15 zl_0 ?_
    refine z_chk (fun c6 => ?_)
    refine z_last h3 c6 dL_setClosed_16 ?_
    refine z_goto 24 dL_setClosed_17 rfl (z_iconst dL_setClosed_24 zi_0 ?_)
    exact z_iret zemSc rfl dL_setClosed_25
  · refine z_lconst dL_setClosed_11 zl_1 (z_goto 16 dL_setClosed_12 rfl ?_)
    refine z_chk (fun c7 => ?_)
    refine z_last h3 c7 dL_setClosed_16 ?_
    refine z_goto 24 dL_setClosed_17 rfl (z_iconst dL_setClosed_24 zi_0 ?_)
    exact z_iret zemSc rfl dL_setClosed_25

theorem zy_L_setClosed : zYh yL_setClosed cL_setClosed 5 (some .int) [(0, 17, 20, 23)] 4 := ⟨gw668, gw0, ⟨by decide +kernel, by decide +kernel, by decide +kernel⟩, (Nat.le_of_ble_eq_true rfl)⟩
theorem m_L_setClosed {E : ZE} {S : Zs} (hW : zWF S) (w : Zw) (a0 : Nat) (h0 : zObj S a0 7) (a1 : Int32) (a2 : Int32) (a3 : Nat) (h3 : zArr S a3 3) : ∀ i, f_L_setClosed S w a0 a1 a2 a3 = some i → zMh E yL_setClosed cL_setClosed 5 (some .int) [(0, 17, 20, 23)] 11 1 6 [.ref a0, .int a1, .int a2, .ref a3] S w ((emS eI S) i) :=
  fun i hi => z_enterH (by decide +kernel) (Nat.le_of_ble_eq_true rfl) (mw_L_setClosed hW w a0 h0 a1 a2 a3 h3 i hi)
/-! law: L_bay -/
abbrev i_L_bay : Zm := (yL_bay.cls, cL_bay, 5, (some .int), [(0, 10, 13, 23), (0, 10, 17, 13)], yL_bay.name)
def f_L_bay (S : Zs) (w : Zw) (a0 : Nat) (a1 : Int32) (a2 : Int32) (a3 : Nat) : Option (Int32 × (Nat → Nat → Int64) × (Nat → Nat → UInt64) × Zw) :=
  zbx (f_X7_bay S w a0 a1 a2) (fun v1 w2 => if zin (0 : Int32) (zlen S a3) = true then some ((0 : Int32), (zup S.cl a3 (zix (0 : Int32)) ((v1).toInt64)), S.cd, w2) else none) (fun e w9 => if e = "java/lang/IndexOutOfBoundsException" then some ((1 : Int32), S.cl, S.cd, w9) else if e = "java/lang/IllegalArgumentException" then some ((2 : Int32), S.cl, S.cd, w9) else none)
theorem mw_L_bay {E : ZE} {S : Zs} (hW : zWF S) (w : Zw) (a0 : Nat) (h0 : zObj S a0 7) (a1 : Int32) (a2 : Int32) (a3 : Nat) (h3 : zArr S a3 3) : zOk (E, i_L_bay, 8) 2 12 S w 0 [(0, .ref a0), (1, .int a1), (2, .int a2), (3, .ref a3)] [] (emS eI S) (f_L_bay S w a0 a1 a2 a3) := by
  unfold f_L_bay
  refine z_aload_n 3 dL_bay_0 rfl (z_iconst dL_bay_1 zi_0 (z_aload_n 0 dL_bay_2 rfl (z_iload_n 1 dL_bay_3 rfl (z_iload_n 2 dL_bay_4 rfl ?_))))
  refine z_bindX (fun j9 hb3 => ?_)
  obtain ⟨v1 | e4, w2⟩ := j9
  case inr =>
    dsimp only [zbx]
    refine z_ite _ (fun qx => ?_) (fun qx => ?_)
    · subst qx
      refine z_callVXt (hp := 13) (k := 4) (len := 2) (lv' := [(0, .ref a0), (1, .int a1), (2, .int a2), (3, .ref a3)]) (kc' := 0) (ks' := 0) (st := [.int (0 : Int32), .ref a3]) [.int a1, .int a2] (m_X7_bay hW w a0 h0 a1 a2 _ hb3) zc7 h0 zy_X7_bay gw689 gw690 gw688 (Nat.le_of_ble_eq_true rfl) (Nat.le_of_ble_eq_true rfl) (Nat.le_of_ble_eq_true rfl) (Nat.le_of_ble_eq_true rfl) (zal hW) rfl dL_bay_5 ⟨tableOf [], _, tableOf [(0, 10, 17, 13)], rfl, zCt1_ok _ trivial, rfl, by decide, rfl, gw547, by decide +kernel⟩ (Or.inr ⟨dL_bay_13, rfl⟩) (Nat.le_of_ble_eq_true rfl) rfl ?_
      refine z_iconst dL_bay_15 zi_1 ?_
      exact z_iret zemS rfl dL_bay_16
    refine z_ite _ (fun qx => ?_) (fun qx => ?_)
    · subst qx
      refine z_callVXt (hp := 17) (k := 4) (len := 2) (lv' := [(0, .ref a0), (1, .int a1), (2, .int a2), (3, .ref a3)]) (kc' := 0) (ks' := 0) (st := [.int (0 : Int32), .ref a3]) [.int a1, .int a2] (m_X7_bay hW w a0 h0 a1 a2 _ hb3) zc7 h0 zy_X7_bay gw689 gw690 gw688 (Nat.le_of_ble_eq_true rfl) (Nat.le_of_ble_eq_true rfl) (Nat.le_of_ble_eq_true rfl) (Nat.le_of_ble_eq_true rfl) (zal hW) rfl dL_bay_5 ⟨tableOf [(0, 10, 13, 23)], _, tableOf [], rfl, zCt1_ok _ ⟨⟨by decide, "java/lang/IndexOutOfBoundsException", gw547, by decide +kernel⟩, trivial⟩, rfl, by decide, rfl, gw413, by decide +kernel⟩ (Or.inr ⟨dL_bay_17, rfl⟩) (Nat.le_of_ble_eq_true rfl) rfl ?_
      refine z_iconst dL_bay_19 zi_2 ?_
      exact z_iret zemS rfl dL_bay_20
    exact z_none
  refine z_callVXr (kc' := 0) (ks' := 0) (v := (some (.int v1))) (S1 := S) (w1 := w2) (st := [.int (0 : Int32), .ref a3]) [.int a1, .int a2] (m_X7_bay hW w a0 h0 a1 a2 _ hb3) zc7 h0 zy_X7_bay gw689 gw690 gw688 (Nat.le_of_ble_eq_true rfl) (Nat.le_of_ble_eq_true rfl) (Nat.le_of_ble_eq_true rfl) (Nat.le_of_ble_eq_true rfl) (zal hW) rfl dL_bay_5 (z_at 8 _ [.int v1, .int (0 : Int32), .ref a3] rfl rfl rfl ?_)
  dsimp only [zbx]
  refine z_i2l (v := (v1).toInt64) dL_bay_8 rfl ?_
  refine z_chk (fun c5 => ?_)
  refine z_last h3 c5 dL_bay_9 ?_
  refine z_goto 21 dL_bay_10 rfl (z_iconst dL_bay_21 zi_0 ?_)
  exact z_iret zemSc rfl dL_bay_22

theorem zy_L_bay : zYh yL_bay cL_bay 5 (some .int) [(0, 10, 13, 23), (0, 10, 17, 13)] 4 := ⟨gw687, gw0, ⟨by decide +kernel, by decide +kernel, by decide +kernel⟩, (Nat.le_of_ble_eq_true rfl)⟩
theorem m_L_bay {E : ZE} {S : Zs} (hW : zWF S) (w : Zw) (a0 : Nat) (h0 : zObj S a0 7) (a1 : Int32) (a2 : Int32) (a3 : Nat) (h3 : zArr S a3 3) : ∀ i, f_L_bay S w a0 a1 a2 a3 = some i → zMh E yL_bay cL_bay 5 (some .int) [(0, 10, 13, 23), (0, 10, 17, 13)] 8 2 12 [.ref a0, .int a1, .int a2, .ref a3] S w ((emS eI S) i) :=
  fun i hi => z_enterH (by decide +kernel) (Nat.le_of_ble_eq_true rfl) (mw_L_bay hW w a0 h0 a1 a2 a3 h3 i hi)
/-! law: L_choice -/
abbrev i_L_choice : Zm := (yL_choice.cls, cL_choice, 5, (some .int), [(0, 10, 13, 13), (0, 10, 17, 45)], yL_choice.name)
def f_L_choice (S : Zs) (w : Zw) (a0 : Nat) (a1 : Int32) (a2 : Int32) (a3 : Nat) : Option (Int32 × (Nat → Nat → Int64) × (Nat → Nat → UInt64) × Zw) :=
  zbx (f_X7_choice S w a0 a1 a2) (fun v1 w2 => if zin (0 : Int32) (zlen S a3) = true then some ((0 : Int32), (zup S.cl a3 (zix (0 : Int32)) ((v1).toInt64)), S.cd, w2) else none) (fun e w9 => if e = "java/lang/IllegalArgumentException" then some ((1 : Int32), S.cl, S.cd, w9) else if e = "java/util/NoSuchElementException" then some ((2 : Int32), S.cl, S.cd, w9) else none)
theorem mw_L_choice {E : ZE} {S : Zs} (hW : zWF S) (w : Zw) (a0 : Nat) (h0 : zObj S a0 7) (a1 : Int32) (a2 : Int32) (a3 : Nat) (h3 : zArr S a3 3) : zOk (E, i_L_choice, 9) 2 12 S w 0 [(0, .ref a0), (1, .int a1), (2, .int a2), (3, .ref a3)] [] (emS eI S) (f_L_choice S w a0 a1 a2 a3) := by
  unfold f_L_choice
  refine z_aload_n 3 dL_choice_0 rfl (z_iconst dL_choice_1 zi_0 (z_aload_n 0 dL_choice_2 rfl (z_iload_n 1 dL_choice_3 rfl (z_iload_n 2 dL_choice_4 rfl ?_))))
  refine z_bindX (fun j9 hb3 => ?_)
  obtain ⟨v1 | e4, w2⟩ := j9
  case inr =>
    dsimp only [zbx]
    refine z_ite _ (fun qx => ?_) (fun qx => ?_)
    · subst qx
      refine z_callVXt (hp := 13) (k := 4) (len := 2) (lv' := [(0, .ref a0), (1, .int a1), (2, .int a2), (3, .ref a3)]) (kc' := 0) (ks' := 0) (st := [.int (0 : Int32), .ref a3]) [.int a1, .int a2] (m_X7_choice hW w a0 h0 a1 a2 _ hb3) zc7 h0 zy_X7_choice gw711 gw712 gw710 (Nat.le_of_ble_eq_true rfl) (Nat.le_of_ble_eq_true rfl) (Nat.le_of_ble_eq_true rfl) (Nat.le_of_ble_eq_true rfl) (zal hW) rfl dL_choice_5 ⟨tableOf [], _, tableOf [(0, 10, 17, 45)], rfl, zCt1_ok _ trivial, rfl, by decide, rfl, gw413, by decide +kernel⟩ (Or.inr ⟨dL_choice_13, rfl⟩) (Nat.le_of_ble_eq_true rfl) rfl ?_
      refine z_iconst dL_choice_15 zi_1 ?_
      exact z_iret zemS rfl dL_choice_16
    refine z_ite _ (fun qx => ?_) (fun qx => ?_)
    · subst qx
      refine z_callVXt (hp := 17) (k := 4) (len := 2) (lv' := [(0, .ref a0), (1, .int a1), (2, .int a2), (3, .ref a3)]) (kc' := 0) (ks' := 0) (st := [.int (0 : Int32), .ref a3]) [.int a1, .int a2] (m_X7_choice hW w a0 h0 a1 a2 _ hb3) zc7 h0 zy_X7_choice gw711 gw712 gw710 (Nat.le_of_ble_eq_true rfl) (Nat.le_of_ble_eq_true rfl) (Nat.le_of_ble_eq_true rfl) (Nat.le_of_ble_eq_true rfl) (zal hW) rfl dL_choice_5 ⟨tableOf [(0, 10, 13, 13)], _, tableOf [], rfl, zCt1_ok _ ⟨⟨by decide, "java/lang/IllegalArgumentException", gw413, by decide +kernel⟩, trivial⟩, rfl, by decide, rfl, gw709, by decide +kernel⟩ (Or.inr ⟨dL_choice_17, rfl⟩) (Nat.le_of_ble_eq_true rfl) rfl ?_
      refine z_iconst dL_choice_19 zi_2 ?_
      exact z_iret zemS rfl dL_choice_20
    exact z_none
  refine z_callVXr (kc' := 0) (ks' := 0) (v := (some (.int v1))) (S1 := S) (w1 := w2) (st := [.int (0 : Int32), .ref a3]) [.int a1, .int a2] (m_X7_choice hW w a0 h0 a1 a2 _ hb3) zc7 h0 zy_X7_choice gw711 gw712 gw710 (Nat.le_of_ble_eq_true rfl) (Nat.le_of_ble_eq_true rfl) (Nat.le_of_ble_eq_true rfl) (Nat.le_of_ble_eq_true rfl) (zal hW) rfl dL_choice_5 (z_at 8 _ [.int v1, .int (0 : Int32), .ref a3] rfl rfl rfl ?_)
  dsimp only [zbx]
  refine z_i2l (v := (v1).toInt64) dL_choice_8 rfl ?_
  refine z_chk (fun c5 => ?_)
  refine z_last h3 c5 dL_choice_9 ?_
  refine z_goto 21 dL_choice_10 rfl (z_iconst dL_choice_21 zi_0 ?_)
  exact z_iret zemSc rfl dL_choice_22

theorem zy_L_choice : zYh yL_choice cL_choice 5 (some .int) [(0, 10, 13, 13), (0, 10, 17, 45)] 4 := ⟨gw708, gw0, ⟨by decide +kernel, by decide +kernel, by decide +kernel⟩, (Nat.le_of_ble_eq_true rfl)⟩
theorem m_L_choice {E : ZE} {S : Zs} (hW : zWF S) (w : Zw) (a0 : Nat) (h0 : zObj S a0 7) (a1 : Int32) (a2 : Int32) (a3 : Nat) (h3 : zArr S a3 3) : ∀ i, f_L_choice S w a0 a1 a2 a3 = some i → zMh E yL_choice cL_choice 5 (some .int) [(0, 10, 13, 13), (0, 10, 17, 45)] 9 2 12 [.ref a0, .int a1, .int a2, .ref a3] S w ((emS eI S) i) :=
  fun i hi => z_enterH (by decide +kernel) (Nat.le_of_ble_eq_true rfl) (mw_L_choice hW w a0 h0 a1 a2 a3 h3 i hi)
/-! law: L_refuge -/
abbrev i_L_refuge : Zm := (yL_refuge.cls, cL_refuge, 4, (some .int), [(0, 9, 12, 23), (0, 9, 15, 45)], yL_refuge.name)
def f_L_refuge (S : Zs) (w : Zw) (a0 : Nat) (a1 : Int32) (a2 : Nat) : Option (Int32 × (Nat → Nat → Int64) × (Nat → Nat → UInt64) × Zw) :=
  zbx (f_X7_refuge S w a0 a1) (fun v1 w2 => if zin (0 : Int32) (zlen S a2) = true then some ((0 : Int32), (zup S.cl a2 (zix (0 : Int32)) ((v1).toInt64)), S.cd, w2) else none) (fun e w9 => if e = "java/lang/IndexOutOfBoundsException" then some ((1 : Int32), S.cl, S.cd, w9) else if e = "java/util/NoSuchElementException" then some ((2 : Int32), S.cl, S.cd, w9) else none)
theorem mw_L_refuge {E : ZE} {S : Zs} (hW : zWF S) (w : Zw) (a0 : Nat) (h0 : zObj S a0 7) (a1 : Int32) (a2 : Nat) (h2 : zArr S a2 3) : zOk (E, i_L_refuge, 10) 2 12 S w 0 [(0, .ref a0), (1, .int a1), (2, .ref a2)] [] (emS eI S) (f_L_refuge S w a0 a1 a2) := by
  unfold f_L_refuge
  refine z_aload_n 2 dL_refuge_0 rfl (z_iconst dL_refuge_1 zi_0 (z_aload_n 0 dL_refuge_2 rfl (z_iload_n 1 dL_refuge_3 rfl ?_)))
  refine z_bindX (fun j9 hb3 => ?_)
  obtain ⟨v1 | e4, w2⟩ := j9
  case inr =>
    dsimp only [zbx]
    refine z_ite _ (fun qx => ?_) (fun qx => ?_)
    · subst qx
      refine z_callVXt (hp := 12) (k := 3) (len := 1) (lv' := [(0, .ref a0), (1, .int a1), (2, .ref a2)]) (kc' := 0) (ks' := 0) (st := [.int (0 : Int32), .ref a2]) [.int a1] (m_X7_refuge hW w a0 h0 a1 _ hb3) zc7 h0 zy_X7_refuge gw734 gw735 gw733 (Nat.le_of_ble_eq_true rfl) (Nat.le_of_ble_eq_true rfl) (Nat.le_of_ble_eq_true rfl) (Nat.le_of_ble_eq_true rfl) (zal hW) rfl dL_refuge_4 ⟨tableOf [], _, tableOf [(0, 9, 15, 45)], rfl, zCt1_ok _ trivial, rfl, by decide, rfl, gw547, by decide +kernel⟩ (Or.inl ⟨3, rfl, dL_refuge_12, rfl⟩) (Nat.le_of_ble_eq_true rfl) rfl ?_
      refine z_iconst dL_refuge_13 zi_1 ?_
      exact z_iret zemS rfl dL_refuge_14
    refine z_ite _ (fun qx => ?_) (fun qx => ?_)
    · subst qx
      refine z_callVXt (hp := 15) (k := 3) (len := 1) (lv' := [(0, .ref a0), (1, .int a1), (2, .ref a2)]) (kc' := 0) (ks' := 0) (st := [.int (0 : Int32), .ref a2]) [.int a1] (m_X7_refuge hW w a0 h0 a1 _ hb3) zc7 h0 zy_X7_refuge gw734 gw735 gw733 (Nat.le_of_ble_eq_true rfl) (Nat.le_of_ble_eq_true rfl) (Nat.le_of_ble_eq_true rfl) (Nat.le_of_ble_eq_true rfl) (zal hW) rfl dL_refuge_4 ⟨tableOf [(0, 9, 12, 23)], _, tableOf [], rfl, zCt1_ok _ ⟨⟨by decide, "java/lang/IndexOutOfBoundsException", gw547, by decide +kernel⟩, trivial⟩, rfl, by decide, rfl, gw709, by decide +kernel⟩ (Or.inl ⟨3, rfl, dL_refuge_15, rfl⟩) (Nat.le_of_ble_eq_true rfl) rfl ?_
      refine z_iconst dL_refuge_16 zi_2 ?_
      exact z_iret zemS rfl dL_refuge_17
    exact z_none
  refine z_callVXr (kc' := 0) (ks' := 0) (v := (some (.int v1))) (S1 := S) (w1 := w2) (st := [.int (0 : Int32), .ref a2]) [.int a1] (m_X7_refuge hW w a0 h0 a1 _ hb3) zc7 h0 zy_X7_refuge gw734 gw735 gw733 (Nat.le_of_ble_eq_true rfl) (Nat.le_of_ble_eq_true rfl) (Nat.le_of_ble_eq_true rfl) (Nat.le_of_ble_eq_true rfl) (zal hW) rfl dL_refuge_4 (z_at 7 _ [.int v1, .int (0 : Int32), .ref a2] rfl rfl rfl ?_)
  dsimp only [zbx]
  refine z_i2l (v := (v1).toInt64) dL_refuge_7 rfl ?_
  refine z_chk (fun c5 => ?_)
  refine z_last h2 c5 dL_refuge_8 ?_
  refine z_goto 18 dL_refuge_9 rfl (z_iconst dL_refuge_18 zi_0 ?_)
  exact z_iret zemSc rfl dL_refuge_19

theorem zy_L_refuge : zYh yL_refuge cL_refuge 4 (some .int) [(0, 9, 12, 23), (0, 9, 15, 45)] 3 := ⟨gw732, gw0, ⟨by decide +kernel, by decide +kernel, by decide +kernel⟩, (Nat.le_of_ble_eq_true rfl)⟩
theorem m_L_refuge {E : ZE} {S : Zs} (hW : zWF S) (w : Zw) (a0 : Nat) (h0 : zObj S a0 7) (a1 : Int32) (a2 : Nat) (h2 : zArr S a2 3) : ∀ i, f_L_refuge S w a0 a1 a2 = some i → zMh E yL_refuge cL_refuge 4 (some .int) [(0, 9, 12, 23), (0, 9, 15, 45)] 10 2 12 [.ref a0, .int a1, .ref a2] S w ((emS eI S) i) :=
  fun i hi => z_enterH (by decide +kernel) (Nat.le_of_ble_eq_true rfl) (mw_L_refuge hW w a0 h0 a1 a2 h2 i hi)
/-! law: L_bays -/
abbrev i_L_bays : Zm := (yL_bays.cls, cL_bays, 4, (some .int), [(0, 9, 12, 13)], yL_bays.name)
def f_L_bays (S : Zs) (w : Zw) (a0 : Nat) (a1 : Int32) (a2 : Nat) : Option (Int32 × (Nat → Nat → Int64) × (Nat → Nat → UInt64) × Zw) :=
  zbx (f_X7_bays S w a0 a1) (fun v1 w2 => if zin (0 : Int32) (zlen S a2) = true then some ((0 : Int32), (zup S.cl a2 (zix (0 : Int32)) ((v1).toInt64)), S.cd, w2) else none) (fun e w9 => if e = "java/lang/IllegalArgumentException" then some ((1 : Int32), S.cl, S.cd, w9) else none)
theorem mw_L_bays {E : ZE} {S : Zs} (hW : zWF S) (w : Zw) (a0 : Nat) (h0 : zObj S a0 7) (a1 : Int32) (a2 : Nat) (h2 : zArr S a2 3) : zOk (E, i_L_bays, 7) 1 6 S w 0 [(0, .ref a0), (1, .int a1), (2, .ref a2)] [] (emS eI S) (f_L_bays S w a0 a1 a2) := by
  unfold f_L_bays
  refine z_aload_n 2 dL_bays_0 rfl (z_iconst dL_bays_1 zi_0 (z_aload_n 0 dL_bays_2 rfl (z_iload_n 1 dL_bays_3 rfl ?_)))
  refine z_bindX (fun j9 hb3 => ?_)
  obtain ⟨v1 | e4, w2⟩ := j9
  case inr =>
    dsimp only [zbx]
    refine z_ite _ (fun qx => ?_) (fun qx => ?_)
    · subst qx
      refine z_callVXt (hp := 12) (k := 3) (len := 1) (lv' := [(0, .ref a0), (1, .int a1), (2, .ref a2)]) (kc' := 0) (ks' := 0) (st := [.int (0 : Int32), .ref a2]) [.int a1] (m_X7_bays hW w a0 h0 a1 _ hb3) zc7 h0 zy_X7_bays gw742 gw743 gw741 (Nat.le_of_ble_eq_true rfl) (Nat.le_of_ble_eq_true rfl) (Nat.le_of_ble_eq_true rfl) (Nat.le_of_ble_eq_true rfl) (zal hW) rfl dL_bays_4 ⟨tableOf [], _, tableOf [], rfl, zCt1_ok _ trivial, rfl, by decide, rfl, gw413, by decide +kernel⟩ (Or.inl ⟨3, rfl, dL_bays_12, rfl⟩) (Nat.le_of_ble_eq_true rfl) rfl ?_
      refine z_iconst dL_bays_13 zi_1 ?_
      exact z_iret zemS rfl dL_bays_14
    exact z_none
  refine z_callVXr (kc' := 0) (ks' := 0) (v := (some (.int v1))) (S1 := S) (w1 := w2) (st := [.int (0 : Int32), .ref a2]) [.int a1] (m_X7_bays hW w a0 h0 a1 _ hb3) zc7 h0 zy_X7_bays gw742 gw743 gw741 (Nat.le_of_ble_eq_true rfl) (Nat.le_of_ble_eq_true rfl) (Nat.le_of_ble_eq_true rfl) (Nat.le_of_ble_eq_true rfl) (zal hW) rfl dL_bays_4 (z_at 7 _ [.int v1, .int (0 : Int32), .ref a2] rfl rfl rfl ?_)
  dsimp only [zbx]
  refine z_i2l (v := (v1).toInt64) dL_bays_7 rfl ?_
  refine z_chk (fun c5 => ?_)
  refine z_last h2 c5 dL_bays_8 ?_
  refine z_goto 15 dL_bays_9 rfl (z_iconst dL_bays_15 zi_0 ?_)
  exact z_iret zemSc rfl dL_bays_16

theorem zy_L_bays : zYh yL_bays cL_bays 4 (some .int) [(0, 9, 12, 13)] 3 := ⟨gw740, gw0, ⟨by decide +kernel, by decide +kernel, by decide +kernel⟩, (Nat.le_of_ble_eq_true rfl)⟩
theorem m_L_bays {E : ZE} {S : Zs} (hW : zWF S) (w : Zw) (a0 : Nat) (h0 : zObj S a0 7) (a1 : Int32) (a2 : Nat) (h2 : zArr S a2 3) : ∀ i, f_L_bays S w a0 a1 a2 = some i → zMh E yL_bays cL_bays 4 (some .int) [(0, 9, 12, 13)] 7 1 6 [.ref a0, .int a1, .ref a2] S w ((emS eI S) i) :=
  fun i hi => z_enterH (by decide +kernel) (Nat.le_of_ble_eq_true rfl) (mw_L_bays hW w a0 h0 a1 a2 h2 i hi)
/-! law: L_bestMoves -/
abbrev i_L_bestMoves : Zm := (yL_bestMoves.cls, cL_bestMoves, 5, (some .int), [(0, 9, 12, 23), (0, 9, 16, 13), (0, 9, 20, 45)], yL_bestMoves.name)
def f_L_bestMoves (S : Zs) (w : Zw) (a0 : Nat) (a1 : Int64) (a2 : Nat) : Option (Int32 × (Nat → Nat → Int64) × (Nat → Nat → UInt64) × Zw) :=
  zbx (f_X7_bestMoves S w a0 a1) (fun v1 w2 => if zin (0 : Int32) (zlen S a2) = true then some ((0 : Int32), (zup S.cl a2 (zix (0 : Int32)) ((v1).toInt64)), S.cd, w2) else none) (fun e w9 => if e = "java/lang/IndexOutOfBoundsException" then some ((1 : Int32), S.cl, S.cd, w9) else if e = "java/lang/IllegalArgumentException" then some ((2 : Int32), S.cl, S.cd, w9) else if e = "java/util/NoSuchElementException" then some ((3 : Int32), S.cl, S.cd, w9) else none)
theorem mw_L_bestMoves {E : ZE} {S : Zs} (hW : zWF S) (w : Zw) (a0 : Nat) (h0 : zObj S a0 7) (a1 : Int64) (a2 : Nat) (h2 : zArr S a2 3) : zOk (E, i_L_bestMoves, 33) 2 12 S w 0 [(0, .ref a0), (1, .long a1), (3, .ref a2)] [] (emS eI S) (f_L_bestMoves S w a0 a1 a2) := by
  unfold f_L_bestMoves
  refine z_aload_n 2 dL_bestMoves_0 rfl (z_iconst dL_bestMoves_1 zi_0 (z_aload_n 0 dL_bestMoves_2 rfl (z_lload_n 1 dL_bestMoves_3 rfl ?_)))
  refine z_bindX (fun j9 hb3 => ?_)
  obtain ⟨v1 | e4, w2⟩ := j9
  case inr =>
    dsimp only [zbx]
    refine z_ite _ (fun qx => ?_) (fun qx => ?_)
    · subst qx
      refine z_callVXt (hp := 12) (k := 4) (len := 2) (lv' := [(0, .ref a0), (1, .long a1), (3, .ref a2)]) (kc' := 0) (ks' := 0) (st := [.int (0 : Int32), .ref a2]) [.long a1] (m_X7_bestMoves hW w a0 h0 a1 _ hb3) zc7 h0 zy_X7_bestMoves gw761 gw762 gw760 (Nat.le_of_ble_eq_true rfl) (Nat.le_of_ble_eq_true rfl) (Nat.le_of_ble_eq_true rfl) (Nat.le_of_ble_eq_true rfl) (zal hW) rfl dL_bestMoves_4 ⟨tableOf [], _, tableOf [(0, 9, 16, 13), (0, 9, 20, 45)], rfl, zCt1_ok _ trivial, rfl, by decide, rfl, gw547, by decide +kernel⟩ (Or.inr ⟨dL_bestMoves_12, rfl⟩) (Nat.le_of_ble_eq_true rfl) rfl ?_
      refine z_iconst dL_bestMoves_14 zi_1 ?_
      exact z_iret zemS rfl dL_bestMoves_15
    refine z_ite _ (fun qx => ?_) (fun qx => ?_)
    · subst qx
      refine z_callVXt (hp := 16) (k := 4) (len := 2) (lv' := [(0, .ref a0), (1, .long a1), (3, .ref a2)]) (kc' := 0) (ks' := 0) (st := [.int (0 : Int32), .ref a2]) [.long a1] (m_X7_bestMoves hW w a0 h0 a1 _ hb3) zc7 h0 zy_X7_bestMoves gw761 gw762 gw760 (Nat.le_of_ble_eq_true rfl) (Nat.le_of_ble_eq_true rfl) (Nat.le_of_ble_eq_true rfl) (Nat.le_of_ble_eq_true rfl) (zal hW) rfl dL_bestMoves_4 ⟨tableOf [(0, 9, 12, 23)], _, tableOf [(0, 9, 20, 45)], rfl, zCt1_ok _ ⟨⟨by decide, "java/lang/IndexOutOfBoundsException", gw547, by decide +kernel⟩, trivial⟩, rfl, by decide, rfl, gw413, by decide +kernel⟩ (Or.inr ⟨dL_bestMoves_16, rfl⟩) (Nat.le_of_ble_eq_true rfl) rfl ?_
      refine z_iconst dL_bestMoves_18 zi_2 ?_
      exact z_iret zemS rfl dL_bestMoves_19
    refine z_ite _ (fun qx => ?_) (fun qx => ?_)
    · subst qx
      refine z_callVXt (hp := 20) (k := 4) (len := 2) (lv' := [(0, .ref a0), (1, .long a1), (3, .ref a2)]) (kc' := 0) (ks' := 0) (st := [.int (0 : Int32), .ref a2]) [.long a1] (m_X7_bestMoves hW w a0 h0 a1 _ hb3) zc7 h0 zy_X7_bestMoves gw761 gw762 gw760 (Nat.le_of_ble_eq_true rfl) (Nat.le_of_ble_eq_true rfl) (Nat.le_of_ble_eq_true rfl) (Nat.le_of_ble_eq_true rfl) (zal hW) rfl dL_bestMoves_4 ⟨tableOf [(0, 9, 12, 23), (0, 9, 16, 13)], _, tableOf [], rfl, zCt1_ok _ ⟨⟨by decide, "java/lang/IndexOutOfBoundsException", gw547, by decide +kernel⟩, ⟨⟨by decide, "java/lang/IllegalArgumentException", gw413, by decide +kernel⟩, trivial⟩⟩, rfl, by decide, rfl, gw709, by decide +kernel⟩ (Or.inr ⟨dL_bestMoves_20, rfl⟩) (Nat.le_of_ble_eq_true rfl) rfl ?_
      refine z_iconst dL_bestMoves_22 zi_3 ?_
      exact z_iret zemS rfl dL_bestMoves_23
    exact z_none
  refine z_callVXr (kc' := 0) (ks' := 0) (v := (some (.int v1))) (S1 := S) (w1 := w2) (st := [.int (0 : Int32), .ref a2]) [.long a1] (m_X7_bestMoves hW w a0 h0 a1 _ hb3) zc7 h0 zy_X7_bestMoves gw761 gw762 gw760 (Nat.le_of_ble_eq_true rfl) (Nat.le_of_ble_eq_true rfl) (Nat.le_of_ble_eq_true rfl) (Nat.le_of_ble_eq_true rfl) (zal hW) rfl dL_bestMoves_4 (z_at 7 _ [.int v1, .int (0 : Int32), .ref a2] rfl rfl rfl ?_)
  dsimp only [zbx]
  refine z_i2l (v := (v1).toInt64) dL_bestMoves_7 rfl ?_
  refine z_chk (fun c5 => ?_)
  refine z_last h2 c5 dL_bestMoves_8 ?_
  refine z_goto 24 dL_bestMoves_9 rfl (z_iconst dL_bestMoves_24 zi_0 ?_)
  exact z_iret zemSc rfl dL_bestMoves_25

theorem zy_L_bestMoves : zYh yL_bestMoves cL_bestMoves 5 (some .int) [(0, 9, 12, 23), (0, 9, 16, 13), (0, 9, 20, 45)] 3 := ⟨gw759, gw0, ⟨by decide +kernel, by decide +kernel, by decide +kernel⟩, (Nat.le_of_ble_eq_true rfl)⟩
theorem m_L_bestMoves {E : ZE} {S : Zs} (hW : zWF S) (w : Zw) (a0 : Nat) (h0 : zObj S a0 7) (a1 : Int64) (a2 : Nat) (h2 : zArr S a2 3) : ∀ i, f_L_bestMoves S w a0 a1 a2 = some i → zMh E yL_bestMoves cL_bestMoves 5 (some .int) [(0, 9, 12, 23), (0, 9, 16, 13), (0, 9, 20, 45)] 33 2 12 [.ref a0, .long a1, .ref a2] S w ((emS eI S) i) :=
  fun i hi => z_enterH (by decide +kernel) (Nat.le_of_ble_eq_true rfl) (mw_L_bestMoves hW w a0 h0 a1 a2 h2 i hi)
/-! law: L_bestEnd -/
abbrev i_L_bestEnd : Zm := (yL_bestEnd.cls, cL_bestEnd, 5, (some .int), [(0, 9, 12, 23), (0, 9, 16, 13), (0, 9, 20, 45)], yL_bestEnd.name)
def f_L_bestEnd (S : Zs) (w : Zw) (a0 : Nat) (a1 : Int64) (a2 : Nat) : Option (Int32 × (Nat → Nat → Int64) × (Nat → Nat → UInt64) × Zw) :=
  zbx (f_X7_bestEnd S w a0 a1) (fun v1 w2 => if zin (0 : Int32) (zlen S a2) = true then some ((0 : Int32), (zup S.cl a2 (zix (0 : Int32)) ((v1).toInt64)), S.cd, w2) else none) (fun e w9 => if e = "java/lang/IndexOutOfBoundsException" then some ((1 : Int32), S.cl, S.cd, w9) else if e = "java/lang/IllegalArgumentException" then some ((2 : Int32), S.cl, S.cd, w9) else if e = "java/util/NoSuchElementException" then some ((3 : Int32), S.cl, S.cd, w9) else none)
theorem mw_L_bestEnd {E : ZE} {S : Zs} (hW : zWF S) (w : Zw) (a0 : Nat) (h0 : zObj S a0 7) (a1 : Int64) (a2 : Nat) (h2 : zArr S a2 3) : zOk (E, i_L_bestEnd, 33) 2 12 S w 0 [(0, .ref a0), (1, .long a1), (3, .ref a2)] [] (emS eI S) (f_L_bestEnd S w a0 a1 a2) := by
  unfold f_L_bestEnd
  refine z_aload_n 2 dL_bestEnd_0 rfl (z_iconst dL_bestEnd_1 zi_0 (z_aload_n 0 dL_bestEnd_2 rfl (z_lload_n 1 dL_bestEnd_3 rfl ?_)))
  refine z_bindX (fun j9 hb3 => ?_)
  obtain ⟨v1 | e4, w2⟩ := j9
  case inr =>
    dsimp only [zbx]
    refine z_ite _ (fun qx => ?_) (fun qx => ?_)
    · subst qx
      refine z_callVXt (hp := 12) (k := 4) (len := 2) (lv' := [(0, .ref a0), (1, .long a1), (3, .ref a2)]) (kc' := 0) (ks' := 0) (st := [.int (0 : Int32), .ref a2]) [.long a1] (m_X7_bestEnd hW w a0 h0 a1 _ hb3) zc7 h0 zy_X7_bestEnd gw830 gw831 gw829 (Nat.le_of_ble_eq_true rfl) (Nat.le_of_ble_eq_true rfl) (Nat.le_of_ble_eq_true rfl) (Nat.le_of_ble_eq_true rfl) (zal hW) rfl dL_bestEnd_4 ⟨tableOf [], _, tableOf [(0, 9, 16, 13), (0, 9, 20, 45)], rfl, zCt1_ok _ trivial, rfl, by decide, rfl, gw547, by decide +kernel⟩ (Or.inr ⟨dL_bestEnd_12, rfl⟩) (Nat.le_of_ble_eq_true rfl) rfl ?_
      refine z_iconst dL_bestEnd_14 zi_1 ?_
      exact z_iret zemS rfl dL_bestEnd_15
    refine z_ite _ (fun qx => ?_) (fun qx => ?_)
    · subst qx
      refine z_callVXt (hp := 16) (k := 4) (len := 2) (lv' := [(0, .ref a0), (1, .long a1), (3, .ref a2)]) (kc' := 0) (ks' := 0) (st := [.int (0 : Int32), .ref a2]) [.long a1] (m_X7_bestEnd hW w a0 h0 a1 _ hb3) zc7 h0 zy_X7_bestEnd gw830 gw831 gw829 (Nat.le_of_ble_eq_true rfl) (Nat.le_of_ble_eq_true rfl) (Nat.le_of_ble_eq_true rfl) (Nat.le_of_ble_eq_true rfl) (zal hW) rfl dL_bestEnd_4 ⟨tableOf [(0, 9, 12, 23)], _, tableOf [(0, 9, 20, 45)], rfl, zCt1_ok _ ⟨⟨by decide, "java/lang/IndexOutOfBoundsException", gw547, by decide +kernel⟩, trivial⟩, rfl, by decide, rfl, gw413, by decide +kernel⟩ (Or.inr ⟨dL_bestEnd_16, rfl⟩) (Nat.le_of_ble_eq_true rfl) rfl ?_
      refine z_iconst dL_bestEnd_18 zi_2 ?_
      exact z_iret zemS rfl dL_bestEnd_19
    refine z_ite _ (fun qx => ?_) (fun qx => ?_)
    · subst qx
      refine z_callVXt (hp := 20) (k := 4) (len := 2) (lv' := [(0, .ref a0), (1, .long a1), (3, .ref a2)]) (kc' := 0) (ks' := 0) (st := [.int (0 : Int32), .ref a2]) [.long a1] (m_X7_bestEnd hW w a0 h0 a1 _ hb3) zc7 h0 zy_X7_bestEnd gw830 gw831 gw829 (Nat.le_of_ble_eq_true rfl) (Nat.le_of_ble_eq_true rfl) (Nat.le_of_ble_eq_true rfl) (Nat.le_of_ble_eq_true rfl) (zal hW) rfl dL_bestEnd_4 ⟨tableOf [(0, 9, 12, 23), (0, 9, 16, 13)], _, tableOf [], rfl, zCt1_ok _ ⟨⟨by decide, "java/lang/IndexOutOfBoundsException", gw547, by decide +kernel⟩, ⟨⟨by decide, "java/lang/IllegalArgumentException", gw413, by decide +kernel⟩, trivial⟩⟩, rfl, by decide, rfl, gw709, by decide +kernel⟩ (Or.inr ⟨dL_bestEnd_20, rfl⟩) (Nat.le_of_ble_eq_true rfl) rfl ?_
      refine z_iconst dL_bestEnd_22 zi_3 ?_
      exact z_iret zemS rfl dL_bestEnd_23
    exact z_none
  refine z_callVXr (kc' := 0) (ks' := 0) (v := (some (.int v1))) (S1 := S) (w1 := w2) (st := [.int (0 : Int32), .ref a2]) [.long a1] (m_X7_bestEnd hW w a0 h0 a1 _ hb3) zc7 h0 zy_X7_bestEnd gw830 gw831 gw829 (Nat.le_of_ble_eq_true rfl) (Nat.le_of_ble_eq_true rfl) (Nat.le_of_ble_eq_true rfl) (Nat.le_of_ble_eq_true rfl) (zal hW) rfl dL_bestEnd_4 (z_at 7 _ [.int v1, .int (0 : Int32), .ref a2] rfl rfl rfl ?_)
  dsimp only [zbx]
  refine z_i2l (v := (v1).toInt64) dL_bestEnd_7 rfl ?_
  refine z_chk (fun c5 => ?_)
  refine z_last h2 c5 dL_bestEnd_8 ?_
  refine z_goto 24 dL_bestEnd_9 rfl (z_iconst dL_bestEnd_24 zi_0 ?_)
  exact z_iret zemSc rfl dL_bestEnd_25

theorem zy_L_bestEnd : zYh yL_bestEnd cL_bestEnd 5 (some .int) [(0, 9, 12, 23), (0, 9, 16, 13), (0, 9, 20, 45)] 3 := ⟨gw828, gw0, ⟨by decide +kernel, by decide +kernel, by decide +kernel⟩, (Nat.le_of_ble_eq_true rfl)⟩
theorem m_L_bestEnd {E : ZE} {S : Zs} (hW : zWF S) (w : Zw) (a0 : Nat) (h0 : zObj S a0 7) (a1 : Int64) (a2 : Nat) (h2 : zArr S a2 3) : ∀ i, f_L_bestEnd S w a0 a1 a2 = some i → zMh E yL_bestEnd cL_bestEnd 5 (some .int) [(0, 9, 12, 23), (0, 9, 16, 13), (0, 9, 20, 45)] 33 2 12 [.ref a0, .long a1, .ref a2] S w ((emS eI S) i) :=
  fun i hi => z_enterH (by decide +kernel) (Nat.le_of_ble_eq_true rfl) (mw_L_bestEnd hW w a0 h0 a1 a2 h2 i hi)
/-! law: L_bestCar -/
abbrev i_L_bestCar : Zm := (yL_bestCar.cls, cL_bestCar, 6, (some .int), [(0, 11, 14, 23), (0, 11, 18, 13), (0, 11, 22, 45)], yL_bestCar.name)
def f_L_bestCar (S : Zs) (w : Zw) (a0 : Nat) (a1 : Int64) (a2 : Int32) (a3 : Nat) : Option (Int32 × (Nat → Nat → Int64) × (Nat → Nat → UInt64) × Zw) :=
  zbx (f_X7_bestCar S w a0 a1 a2) (fun v1 w2 => if zin (0 : Int32) (zlen S a3) = true then some ((0 : Int32), (zup S.cl a3 (zix (0 : Int32)) ((v1).toInt64)), S.cd, w2) else none) (fun e w9 => if e = "java/lang/IndexOutOfBoundsException" then some ((1 : Int32), S.cl, S.cd, w9) else if e = "java/lang/IllegalArgumentException" then some ((2 : Int32), S.cl, S.cd, w9) else if e = "java/util/NoSuchElementException" then some ((3 : Int32), S.cl, S.cd, w9) else none)
theorem mw_L_bestCar {E : ZE} {S : Zs} (hW : zWF S) (w : Zw) (a0 : Nat) (h0 : zObj S a0 7) (a1 : Int64) (a2 : Int32) (a3 : Nat) (h3 : zArr S a3 3) : zOk (E, i_L_bestCar, 33) 2 12 S w 0 [(0, .ref a0), (1, .long a1), (3, .int a2), (4, .ref a3)] [] (emS eI S) (f_L_bestCar S w a0 a1 a2 a3) := by
  unfold f_L_bestCar
  refine z_aload 3 dL_bestCar_0 rfl (z_iconst dL_bestCar_2 zi_0 (z_aload_n 0 dL_bestCar_3 rfl (z_lload_n 1 dL_bestCar_4 rfl (z_iload_n 2 dL_bestCar_5 rfl ?_))))
  refine z_bindX (fun j9 hb3 => ?_)
  obtain ⟨v1 | e4, w2⟩ := j9
  case inr =>
    dsimp only [zbx]
    refine z_ite _ (fun qx => ?_) (fun qx => ?_)
    · subst qx
      refine z_callVXt (hp := 14) (k := 5) (len := 2) (lv' := [(0, .ref a0), (1, .long a1), (3, .int a2), (4, .ref a3)]) (kc' := 0) (ks' := 0) (st := [.int (0 : Int32), .ref a3]) [.long a1, .int a2] (m_X7_bestCar hW w a0 h0 a1 a2 _ hb3) zc7 h0 zy_X7_bestCar gw841 gw842 gw840 (Nat.le_of_ble_eq_true rfl) (Nat.le_of_ble_eq_true rfl) (Nat.le_of_ble_eq_true rfl) (Nat.le_of_ble_eq_true rfl) (zal hW) rfl dL_bestCar_6 ⟨tableOf [], _, tableOf [(0, 11, 18, 13), (0, 11, 22, 45)], rfl, zCt1_ok _ trivial, rfl, by decide, rfl, gw547, by decide +kernel⟩ (Or.inr ⟨dL_bestCar_14, rfl⟩) (Nat.le_of_ble_eq_true rfl) rfl ?_
      refine z_iconst dL_bestCar_16 zi_1 ?_
      exact z_iret zemS rfl dL_bestCar_17
    refine z_ite _ (fun qx => ?_) (fun qx => ?_)
    · subst qx
      refine z_callVXt (hp := 18) (k := 5) (len := 2) (lv' := [(0, .ref a0), (1, .long a1), (3, .int a2), (4, .ref a3)]) (kc' := 0) (ks' := 0) (st := [.int (0 : Int32), .ref a3]) [.long a1, .int a2] (m_X7_bestCar hW w a0 h0 a1 a2 _ hb3) zc7 h0 zy_X7_bestCar gw841 gw842 gw840 (Nat.le_of_ble_eq_true rfl) (Nat.le_of_ble_eq_true rfl) (Nat.le_of_ble_eq_true rfl) (Nat.le_of_ble_eq_true rfl) (zal hW) rfl dL_bestCar_6 ⟨tableOf [(0, 11, 14, 23)], _, tableOf [(0, 11, 22, 45)], rfl, zCt1_ok _ ⟨⟨by decide, "java/lang/IndexOutOfBoundsException", gw547, by decide +kernel⟩, trivial⟩, rfl, by decide, rfl, gw413, by decide +kernel⟩ (Or.inr ⟨dL_bestCar_18, rfl⟩) (Nat.le_of_ble_eq_true rfl) rfl ?_
      refine z_iconst dL_bestCar_20 zi_2 ?_
      exact z_iret zemS rfl dL_bestCar_21
    refine z_ite _ (fun qx => ?_) (fun qx => ?_)
    · subst qx
      refine z_callVXt (hp := 22) (k := 5) (len := 2) (lv' := [(0, .ref a0), (1, .long a1), (3, .int a2), (4, .ref a3)]) (kc' := 0) (ks' := 0) (st := [.int (0 : Int32), .ref a3]) [.long a1, .int a2] (m_X7_bestCar hW w a0 h0 a1 a2 _ hb3) zc7 h0 zy_X7_bestCar gw841 gw842 gw840 (Nat.le_of_ble_eq_true rfl) (Nat.le_of_ble_eq_true rfl) (Nat.le_of_ble_eq_true rfl) (Nat.le_of_ble_eq_true rfl) (zal hW) rfl dL_bestCar_6 ⟨tableOf [(0, 11, 14, 23), (0, 11, 18, 13)], _, tableOf [], rfl, zCt1_ok _ ⟨⟨by decide, "java/lang/IndexOutOfBoundsException", gw547, by decide +kernel⟩, ⟨⟨by decide, "java/lang/IllegalArgumentException", gw413, by decide +kernel⟩, trivial⟩⟩, rfl, by decide, rfl, gw709, by decide +kernel⟩ (Or.inr ⟨dL_bestCar_22, rfl⟩) (Nat.le_of_ble_eq_true rfl) rfl ?_
      refine z_iconst dL_bestCar_24 zi_3 ?_
      exact z_iret zemS rfl dL_bestCar_25
    exact z_none
  refine z_callVXr (kc' := 0) (ks' := 0) (v := (some (.int v1))) (S1 := S) (w1 := w2) (st := [.int (0 : Int32), .ref a3]) [.long a1, .int a2] (m_X7_bestCar hW w a0 h0 a1 a2 _ hb3) zc7 h0 zy_X7_bestCar gw841 gw842 gw840 (Nat.le_of_ble_eq_true rfl) (Nat.le_of_ble_eq_true rfl) (Nat.le_of_ble_eq_true rfl) (Nat.le_of_ble_eq_true rfl) (zal hW) rfl dL_bestCar_6 (z_at 9 _ [.int v1, .int (0 : Int32), .ref a3] rfl rfl rfl ?_)
  dsimp only [zbx]
  refine z_i2l (v := (v1).toInt64) dL_bestCar_9 rfl ?_
  refine z_chk (fun c5 => ?_)
  refine z_last h3 c5 dL_bestCar_10 ?_
  refine z_goto 26 dL_bestCar_11 rfl (z_iconst dL_bestCar_26 zi_0 ?_)
  exact z_iret zemSc rfl dL_bestCar_27

theorem zy_L_bestCar : zYh yL_bestCar cL_bestCar 6 (some .int) [(0, 11, 14, 23), (0, 11, 18, 13), (0, 11, 22, 45)] 4 := ⟨gw839, gw0, ⟨by decide +kernel, by decide +kernel, by decide +kernel⟩, (Nat.le_of_ble_eq_true rfl)⟩
theorem m_L_bestCar {E : ZE} {S : Zs} (hW : zWF S) (w : Zw) (a0 : Nat) (h0 : zObj S a0 7) (a1 : Int64) (a2 : Int32) (a3 : Nat) (h3 : zArr S a3 3) : ∀ i, f_L_bestCar S w a0 a1 a2 a3 = some i → zMh E yL_bestCar cL_bestCar 6 (some .int) [(0, 11, 14, 23), (0, 11, 18, 13), (0, 11, 22, 45)] 33 2 12 [.ref a0, .long a1, .int a2, .ref a3] S w ((emS eI S) i) :=
  fun i hi => z_enterH (by decide +kernel) (Nat.le_of_ble_eq_true rfl) (mw_L_bestCar hW w a0 h0 a1 a2 a3 h3 i hi)
/-! law: L_plainMoves -/
abbrev i_L_plainMoves : Zm := (yL_plainMoves.cls, cL_plainMoves, 5, (some .int), [(0, 9, 12, 23), (0, 9, 16, 13), (0, 9, 20, 45)], yL_plainMoves.name)
def f_L_plainMoves (S : Zs) (w : Zw) (a0 : Nat) (a1 : Int64) (a2 : Nat) : Option (Int32 × (Nat → Nat → Int64) × (Nat → Nat → UInt64) × Zw) :=
  zbx (f_X7_plainMoves S w a0 a1) (fun v1 w2 => if zin (0 : Int32) (zlen S a2) = true then some ((0 : Int32), (zup S.cl a2 (zix (0 : Int32)) ((v1).toInt64)), S.cd, w2) else none) (fun e w9 => if e = "java/lang/IndexOutOfBoundsException" then some ((1 : Int32), S.cl, S.cd, w9) else if e = "java/lang/IllegalArgumentException" then some ((2 : Int32), S.cl, S.cd, w9) else if e = "java/util/NoSuchElementException" then some ((3 : Int32), S.cl, S.cd, w9) else none)
theorem mw_L_plainMoves {E : ZE} {S : Zs} (hW : zWF S) (w : Zw) (a0 : Nat) (h0 : zObj S a0 7) (a1 : Int64) (a2 : Nat) (h2 : zArr S a2 3) : zOk (E, i_L_plainMoves, 12) 2 12 S w 0 [(0, .ref a0), (1, .long a1), (3, .ref a2)] [] (emS eI S) (f_L_plainMoves S w a0 a1 a2) := by
  unfold f_L_plainMoves
  refine z_aload_n 2 dL_plainMoves_0 rfl (z_iconst dL_plainMoves_1 zi_0 (z_aload_n 0 dL_plainMoves_2 rfl (z_lload_n 1 dL_plainMoves_3 rfl ?_)))
  refine z_bindX (fun j9 hb3 => ?_)
  obtain ⟨v1 | e4, w2⟩ := j9
  case inr =>
    dsimp only [zbx]
    refine z_ite _ (fun qx => ?_) (fun qx => ?_)
    · subst qx
      refine z_callVXt (hp := 12) (k := 4) (len := 2) (lv' := [(0, .ref a0), (1, .long a1), (3, .ref a2)]) (kc' := 0) (ks' := 0) (st := [.int (0 : Int32), .ref a2]) [.long a1] (m_X7_plainMoves hW w a0 h0 a1 _ hb3) zc7 h0 zy_X7_plainMoves gw853 gw854 gw852 (Nat.le_of_ble_eq_true rfl) (Nat.le_of_ble_eq_true rfl) (Nat.le_of_ble_eq_true rfl) (Nat.le_of_ble_eq_true rfl) (zal hW) rfl dL_plainMoves_4 ⟨tableOf [], _, tableOf [(0, 9, 16, 13), (0, 9, 20, 45)], rfl, zCt1_ok _ trivial, rfl, by decide, rfl, gw547, by decide +kernel⟩ (Or.inr ⟨dL_plainMoves_12, rfl⟩) (Nat.le_of_ble_eq_true rfl) rfl ?_
      refine z_iconst dL_plainMoves_14 zi_1 ?_
      exact z_iret zemS rfl dL_plainMoves_15
    refine z_ite _ (fun qx => ?_) (fun qx => ?_)
    · subst qx
      refine z_callVXt (hp := 16) (k := 4) (len := 2) (lv' := [(0, .ref a0), (1, .long a1), (3, .ref a2)]) (kc' := 0) (ks' := 0) (st := [.int (0 : Int32), .ref a2]) [.long a1] (m_X7_plainMoves hW w a0 h0 a1 _ hb3) zc7 h0 zy_X7_plainMoves gw853 gw854 gw852 (Nat.le_of_ble_eq_true rfl) (Nat.le_of_ble_eq_true rfl) (Nat.le_of_ble_eq_true rfl) (Nat.le_of_ble_eq_true rfl) (zal hW) rfl dL_plainMoves_4 ⟨tableOf [(0, 9, 12, 23)], _, tableOf [(0, 9, 20, 45)], rfl, zCt1_ok _ ⟨⟨by decide, "java/lang/IndexOutOfBoundsException", gw547, by decide +kernel⟩, trivial⟩, rfl, by decide, rfl, gw413, by decide +kernel⟩ (Or.inr ⟨dL_plainMoves_16, rfl⟩) (Nat.le_of_ble_eq_true rfl) rfl ?_
      refine z_iconst dL_plainMoves_18 zi_2 ?_
      exact z_iret zemS rfl dL_plainMoves_19
    refine z_ite _ (fun qx => ?_) (fun qx => ?_)
    · subst qx
      refine z_callVXt (hp := 20) (k := 4) (len := 2) (lv' := [(0, .ref a0), (1, .long a1), (3, .ref a2)]) (kc' := 0) (ks' := 0) (st := [.int (0 : Int32), .ref a2]) [.long a1] (m_X7_plainMoves hW w a0 h0 a1 _ hb3) zc7 h0 zy_X7_plainMoves gw853 gw854 gw852 (Nat.le_of_ble_eq_true rfl) (Nat.le_of_ble_eq_true rfl) (Nat.le_of_ble_eq_true rfl) (Nat.le_of_ble_eq_true rfl) (zal hW) rfl dL_plainMoves_4 ⟨tableOf [(0, 9, 12, 23), (0, 9, 16, 13)], _, tableOf [], rfl, zCt1_ok _ ⟨⟨by decide, "java/lang/IndexOutOfBoundsException", gw547, by decide +kernel⟩, ⟨⟨by decide, "java/lang/IllegalArgumentException", gw413, by decide +kernel⟩, trivial⟩⟩, rfl, by decide, rfl, gw709, by decide +kernel⟩ (Or.inr ⟨dL_plainMoves_20, rfl⟩) (Nat.le_of_ble_eq_true rfl) rfl ?_
      refine z_iconst dL_plainMoves_22 zi_3 ?_
      exact z_iret zemS rfl dL_plainMoves_23
    exact z_none
  refine z_callVXr (kc' := 0) (ks' := 0) (v := (some (.int v1))) (S1 := S) (w1 := w2) (st := [.int (0 : Int32), .ref a2]) [.long a1] (m_X7_plainMoves hW w a0 h0 a1 _ hb3) zc7 h0 zy_X7_plainMoves gw853 gw854 gw852 (Nat.le_of_ble_eq_true rfl) (Nat.le_of_ble_eq_true rfl) (Nat.le_of_ble_eq_true rfl) (Nat.le_of_ble_eq_true rfl) (zal hW) rfl dL_plainMoves_4 (z_at 7 _ [.int v1, .int (0 : Int32), .ref a2] rfl rfl rfl ?_)
  dsimp only [zbx]
  refine z_i2l (v := (v1).toInt64) dL_plainMoves_7 rfl ?_
  refine z_chk (fun c5 => ?_)
  refine z_last h2 c5 dL_plainMoves_8 ?_
  refine z_goto 24 dL_plainMoves_9 rfl (z_iconst dL_plainMoves_24 zi_0 ?_)
  exact z_iret zemSc rfl dL_plainMoves_25

theorem zy_L_plainMoves : zYh yL_plainMoves cL_plainMoves 5 (some .int) [(0, 9, 12, 23), (0, 9, 16, 13), (0, 9, 20, 45)] 3 := ⟨gw851, gw0, ⟨by decide +kernel, by decide +kernel, by decide +kernel⟩, (Nat.le_of_ble_eq_true rfl)⟩
theorem m_L_plainMoves {E : ZE} {S : Zs} (hW : zWF S) (w : Zw) (a0 : Nat) (h0 : zObj S a0 7) (a1 : Int64) (a2 : Nat) (h2 : zArr S a2 3) : ∀ i, f_L_plainMoves S w a0 a1 a2 = some i → zMh E yL_plainMoves cL_plainMoves 5 (some .int) [(0, 9, 12, 23), (0, 9, 16, 13), (0, 9, 20, 45)] 12 2 12 [.ref a0, .long a1, .ref a2] S w ((emS eI S) i) :=
  fun i hi => z_enterH (by decide +kernel) (Nat.le_of_ble_eq_true rfl) (mw_L_plainMoves hW w a0 h0 a1 a2 h2 i hi)
/-! law: L_retrieveAll -/
abbrev i_L_retrieveAll : Zm := (yL_retrieveAll.cls, cL_retrieveAll, 5, (some .int), [(0, 9, 12, 23), (0, 9, 16, 13), (0, 9, 20, 45)], yL_retrieveAll.name)
def f_L_retrieveAll (S : Zs) (w : Zw) (a0 : Nat) (a1 : Int64) (a2 : Nat) : Option (Int32 × (Nat → Nat → Int64) × (Nat → Nat → UInt64) × Zw) :=
  zbx (f_X7_retrieveAll S w a0 a1) (fun v1 w2 => if zin (0 : Int32) (zlen S a2) = true then some ((0 : Int32), (zup S.cl a2 (zix (0 : Int32)) ((v1).toInt64)), S.cd, w2) else none) (fun e w9 => if e = "java/lang/IndexOutOfBoundsException" then some ((1 : Int32), S.cl, S.cd, w9) else if e = "java/lang/IllegalArgumentException" then some ((2 : Int32), S.cl, S.cd, w9) else if e = "java/util/NoSuchElementException" then some ((3 : Int32), S.cl, S.cd, w9) else none)
theorem mw_L_retrieveAll {E : ZE} {S : Zs} (hW : zWF S) (w : Zw) (a0 : Nat) (h0 : zObj S a0 7) (a1 : Int64) (a2 : Nat) (h2 : zArr S a2 3) : zOk (E, i_L_retrieveAll, 33) 2 12 S w 0 [(0, .ref a0), (1, .long a1), (3, .ref a2)] [] (emS eI S) (f_L_retrieveAll S w a0 a1 a2) := by
  unfold f_L_retrieveAll
  refine z_aload_n 2 dL_retrieveAll_0 rfl (z_iconst dL_retrieveAll_1 zi_0 (z_aload_n 0 dL_retrieveAll_2 rfl (z_lload_n 1 dL_retrieveAll_3 rfl ?_)))
  refine z_bindX (fun j9 hb3 => ?_)
  obtain ⟨v1 | e4, w2⟩ := j9
  case inr =>
    dsimp only [zbx]
    refine z_ite _ (fun qx => ?_) (fun qx => ?_)
    · subst qx
      refine z_callVXt (hp := 12) (k := 4) (len := 2) (lv' := [(0, .ref a0), (1, .long a1), (3, .ref a2)]) (kc' := 0) (ks' := 0) (st := [.int (0 : Int32), .ref a2]) [.long a1] (m_X7_retrieveAll hW w a0 h0 a1 _ hb3) zc7 h0 zy_X7_retrieveAll gw865 gw866 gw864 (Nat.le_of_ble_eq_true rfl) (Nat.le_of_ble_eq_true rfl) (Nat.le_of_ble_eq_true rfl) (Nat.le_of_ble_eq_true rfl) (zal hW) rfl dL_retrieveAll_4 ⟨tableOf [], _, tableOf [(0, 9, 16, 13), (0, 9, 20, 45)], rfl, zCt1_ok _ trivial, rfl, by decide, rfl, gw547, by decide +kernel⟩ (Or.inr ⟨dL_retrieveAll_12, rfl⟩) (Nat.le_of_ble_eq_true rfl) rfl ?_
      refine z_iconst dL_retrieveAll_14 zi_1 ?_
      exact z_iret zemS rfl dL_retrieveAll_15
    refine z_ite _ (fun qx => ?_) (fun qx => ?_)
    · subst qx
      refine z_callVXt (hp := 16) (k := 4) (len := 2) (lv' := [(0, .ref a0), (1, .long a1), (3, .ref a2)]) (kc' := 0) (ks' := 0) (st := [.int (0 : Int32), .ref a2]) [.long a1] (m_X7_retrieveAll hW w a0 h0 a1 _ hb3) zc7 h0 zy_X7_retrieveAll gw865 gw866 gw864 (Nat.le_of_ble_eq_true rfl) (Nat.le_of_ble_eq_true rfl) (Nat.le_of_ble_eq_true rfl) (Nat.le_of_ble_eq_true rfl) (zal hW) rfl dL_retrieveAll_4 ⟨tableOf [(0, 9, 12, 23)], _, tableOf [(0, 9, 20, 45)], rfl, zCt1_ok _ ⟨⟨by decide, "java/lang/IndexOutOfBoundsException", gw547, by decide +kernel⟩, trivial⟩, rfl, by decide, rfl, gw413, by decide +kernel⟩ (Or.inr ⟨dL_retrieveAll_16, rfl⟩) (Nat.le_of_ble_eq_true rfl) rfl ?_
      refine z_iconst dL_retrieveAll_18 zi_2 ?_
      exact z_iret zemS rfl dL_retrieveAll_19
    refine z_ite _ (fun qx => ?_) (fun qx => ?_)
    · subst qx
      refine z_callVXt (hp := 20) (k := 4) (len := 2) (lv' := [(0, .ref a0), (1, .long a1), (3, .ref a2)]) (kc' := 0) (ks' := 0) (st := [.int (0 : Int32), .ref a2]) [.long a1] (m_X7_retrieveAll hW w a0 h0 a1 _ hb3) zc7 h0 zy_X7_retrieveAll gw865 gw866 gw864 (Nat.le_of_ble_eq_true rfl) (Nat.le_of_ble_eq_true rfl) (Nat.le_of_ble_eq_true rfl) (Nat.le_of_ble_eq_true rfl) (zal hW) rfl dL_retrieveAll_4 ⟨tableOf [(0, 9, 12, 23), (0, 9, 16, 13)], _, tableOf [], rfl, zCt1_ok _ ⟨⟨by decide, "java/lang/IndexOutOfBoundsException", gw547, by decide +kernel⟩, ⟨⟨by decide, "java/lang/IllegalArgumentException", gw413, by decide +kernel⟩, trivial⟩⟩, rfl, by decide, rfl, gw709, by decide +kernel⟩ (Or.inr ⟨dL_retrieveAll_20, rfl⟩) (Nat.le_of_ble_eq_true rfl) rfl ?_
      refine z_iconst dL_retrieveAll_22 zi_3 ?_
      exact z_iret zemS rfl dL_retrieveAll_23
    exact z_none
  refine z_callVXr (kc' := 0) (ks' := 0) (v := (some (.int v1))) (S1 := S) (w1 := w2) (st := [.int (0 : Int32), .ref a2]) [.long a1] (m_X7_retrieveAll hW w a0 h0 a1 _ hb3) zc7 h0 zy_X7_retrieveAll gw865 gw866 gw864 (Nat.le_of_ble_eq_true rfl) (Nat.le_of_ble_eq_true rfl) (Nat.le_of_ble_eq_true rfl) (Nat.le_of_ble_eq_true rfl) (zal hW) rfl dL_retrieveAll_4 (z_at 7 _ [.int v1, .int (0 : Int32), .ref a2] rfl rfl rfl ?_)
  dsimp only [zbx]
  refine z_i2l (v := (v1).toInt64) dL_retrieveAll_7 rfl ?_
  refine z_chk (fun c5 => ?_)
  refine z_last h2 c5 dL_retrieveAll_8 ?_
  refine z_goto 24 dL_retrieveAll_9 rfl (z_iconst dL_retrieveAll_24 zi_0 ?_)
  exact z_iret zemSc rfl dL_retrieveAll_25

theorem zy_L_retrieveAll : zYh yL_retrieveAll cL_retrieveAll 5 (some .int) [(0, 9, 12, 23), (0, 9, 16, 13), (0, 9, 20, 45)] 3 := ⟨gw863, gw0, ⟨by decide +kernel, by decide +kernel, by decide +kernel⟩, (Nat.le_of_ble_eq_true rfl)⟩
theorem m_L_retrieveAll {E : ZE} {S : Zs} (hW : zWF S) (w : Zw) (a0 : Nat) (h0 : zObj S a0 7) (a1 : Int64) (a2 : Nat) (h2 : zArr S a2 3) : ∀ i, f_L_retrieveAll S w a0 a1 a2 = some i → zMh E yL_retrieveAll cL_retrieveAll 5 (some .int) [(0, 9, 12, 23), (0, 9, 16, 13), (0, 9, 20, 45)] 33 2 12 [.ref a0, .long a1, .ref a2] S w ((emS eI S) i) :=
  fun i hi => z_enterH (by decide +kernel) (Nat.le_of_ble_eq_true rfl) (mw_L_retrieveAll hW w a0 h0 a1 a2 h2 i hi)
/-! law: L_pass -/
abbrev i_L_pass : Zm := (yL_pass.cls, cL_pass, 4, (some .int), [(0, 9, 12, 13), (0, 9, 15, 15)], yL_pass.name)
def f_L_pass (S : Zs) (w : Zw) (a0 : Nat) (a1 : Int32) (a2 : Nat) : Option (Int32 × (Nat → Nat → Int64) × (Nat → Nat → UInt64) × Zw) :=
  zbx (f_X7_pass S w a0 a1) (fun v1 w2 => if zin (0 : Int32) (zlen S a2) = true then some ((0 : Int32), (zup S.cl a2 (zix (0 : Int32)) ((v1).toInt64)), S.cd, w2) else none) (fun e w9 => if e = "java/lang/IllegalArgumentException" then some ((1 : Int32), S.cl, S.cd, w9) else if e = "java/lang/IllegalStateException" then some ((2 : Int32), S.cl, S.cd, w9) else none)
theorem mw_L_pass {E : ZE} {S : Zs} (hW : zWF S) (w : Zw) (a0 : Nat) (h0 : zObj S a0 7) (a1 : Int32) (a2 : Nat) (h2 : zArr S a2 3) : zOk (E, i_L_pass, 11) 1 6 S w 0 [(0, .ref a0), (1, .int a1), (2, .ref a2)] [] (emS eI S) (f_L_pass S w a0 a1 a2) := by
  unfold f_L_pass
  refine z_aload_n 2 dL_pass_0 rfl (z_iconst dL_pass_1 zi_0 (z_aload_n 0 dL_pass_2 rfl (z_iload_n 1 dL_pass_3 rfl ?_)))
  refine z_bindX (fun j9 hb3 => ?_)
  obtain ⟨v1 | e4, w2⟩ := j9
  case inr =>
    dsimp only [zbx]
    refine z_ite _ (fun qx => ?_) (fun qx => ?_)
    · subst qx
      refine z_callVXt (hp := 12) (k := 3) (len := 1) (lv' := [(0, .ref a0), (1, .int a1), (2, .ref a2)]) (kc' := 0) (ks' := 0) (st := [.int (0 : Int32), .ref a2]) [.int a1] (m_X7_pass hW w a0 h0 a1 _ hb3) zc7 h0 zy_X7_pass gw872 gw873 gw871 (Nat.le_of_ble_eq_true rfl) (Nat.le_of_ble_eq_true rfl) (Nat.le_of_ble_eq_true rfl) (Nat.le_of_ble_eq_true rfl) (zal hW) rfl dL_pass_4 ⟨tableOf [], _, tableOf [(0, 9, 15, 15)], rfl, zCt1_ok _ trivial, rfl, by decide, rfl, gw413, by decide +kernel⟩ (Or.inl ⟨3, rfl, dL_pass_12, rfl⟩) (Nat.le_of_ble_eq_true rfl) rfl ?_
      refine z_iconst dL_pass_13 zi_1 ?_
      exact z_iret zemS rfl dL_pass_14
    refine z_ite _ (fun qx => ?_) (fun qx => ?_)
    · subst qx
      refine z_callVXt (hp := 15) (k := 3) (len := 1) (lv' := [(0, .ref a0), (1, .int a1), (2, .ref a2)]) (kc' := 0) (ks' := 0) (st := [.int (0 : Int32), .ref a2]) [.int a1] (m_X7_pass hW w a0 h0 a1 _ hb3) zc7 h0 zy_X7_pass gw872 gw873 gw871 (Nat.le_of_ble_eq_true rfl) (Nat.le_of_ble_eq_true rfl) (Nat.le_of_ble_eq_true rfl) (Nat.le_of_ble_eq_true rfl) (zal hW) rfl dL_pass_4 ⟨tableOf [(0, 9, 12, 13)], _, tableOf [], rfl, zCt1_ok _ ⟨⟨by decide, "java/lang/IllegalArgumentException", gw413, by decide +kernel⟩, trivial⟩, rfl, by decide, rfl, gw414, by decide +kernel⟩ (Or.inl ⟨3, rfl, dL_pass_15, rfl⟩) (Nat.le_of_ble_eq_true rfl) rfl ?_
      refine z_iconst dL_pass_16 zi_2 ?_
      exact z_iret zemS rfl dL_pass_17
    exact z_none
  refine z_callVXr (kc' := 0) (ks' := 0) (v := (some (.int v1))) (S1 := S) (w1 := w2) (st := [.int (0 : Int32), .ref a2]) [.int a1] (m_X7_pass hW w a0 h0 a1 _ hb3) zc7 h0 zy_X7_pass gw872 gw873 gw871 (Nat.le_of_ble_eq_true rfl) (Nat.le_of_ble_eq_true rfl) (Nat.le_of_ble_eq_true rfl) (Nat.le_of_ble_eq_true rfl) (zal hW) rfl dL_pass_4 (z_at 7 _ [.int v1, .int (0 : Int32), .ref a2] rfl rfl rfl ?_)
  dsimp only [zbx]
  refine z_i2l (v := (v1).toInt64) dL_pass_7 rfl ?_
  refine z_chk (fun c5 => ?_)
  refine z_last h2 c5 dL_pass_8 ?_
  refine z_goto 18 dL_pass_9 rfl (z_iconst dL_pass_18 zi_0 ?_)
  exact z_iret zemSc rfl dL_pass_19

theorem zy_L_pass : zYh yL_pass cL_pass 4 (some .int) [(0, 9, 12, 13), (0, 9, 15, 15)] 3 := ⟨gw870, gw0, ⟨by decide +kernel, by decide +kernel, by decide +kernel⟩, (Nat.le_of_ble_eq_true rfl)⟩
theorem m_L_pass {E : ZE} {S : Zs} (hW : zWF S) (w : Zw) (a0 : Nat) (h0 : zObj S a0 7) (a1 : Int32) (a2 : Nat) (h2 : zArr S a2 3) : ∀ i, f_L_pass S w a0 a1 a2 = some i → zMh E yL_pass cL_pass 4 (some .int) [(0, 9, 12, 13), (0, 9, 15, 15)] 11 1 6 [.ref a0, .int a1, .ref a2] S w ((emS eI S) i) :=
  fun i hi => z_enterH (by decide +kernel) (Nat.le_of_ble_eq_true rfl) (mw_L_pass hW w a0 h0 a1 a2 h2 i hi)
/-! law: L_machine -/
abbrev i_L_machine : Zm := (yL_machine.cls, cL_machine, 5, (some .int), [(0, 10, 13, 23), (0, 10, 17, 13)], yL_machine.name)
def f_L_machine (S : Zs) (w : Zw) (a0 : Nat) (a1 : Int32) (a2 : Int32) (a3 : Nat) : Option (Int32 × (Nat → Nat → Int64) × (Nat → Nat → UInt64) × Zw) :=
  zbx (f_X7_machine S w a0 a1 a2) (fun v1 w2 => if zin (0 : Int32) (zlen S a3) = true then some ((0 : Int32), (zup S.cl a3 (zix (0 : Int32)) ((v1).toInt64)), S.cd, w2) else none) (fun e w9 => if e = "java/lang/IndexOutOfBoundsException" then some ((1 : Int32), S.cl, S.cd, w9) else if e = "java/lang/IllegalArgumentException" then some ((2 : Int32), S.cl, S.cd, w9) else none)
theorem mw_L_machine {E : ZE} {S : Zs} (hW : zWF S) (w : Zw) (a0 : Nat) (h0 : zObj S a0 7) (a1 : Int32) (a2 : Int32) (a3 : Nat) (h3 : zArr S a3 3) : zOk (E, i_L_machine, 8) 2 12 S w 0 [(0, .ref a0), (1, .int a1), (2, .int a2), (3, .ref a3)] [] (emS eI S) (f_L_machine S w a0 a1 a2 a3) := by
  unfold f_L_machine
  refine z_aload_n 3 dL_machine_0 rfl (z_iconst dL_machine_1 zi_0 (z_aload_n 0 dL_machine_2 rfl (z_iload_n 1 dL_machine_3 rfl (z_iload_n 2 dL_machine_4 rfl ?_))))
  refine z_bindX (fun j9 hb3 => ?_)
  obtain ⟨v1 | e4, w2⟩ := j9
  case inr =>
    dsimp only [zbx]
    refine z_ite _ (fun qx => ?_) (fun qx => ?_)
    · subst qx
      refine z_callVXt (hp := 13) (k := 4) (len := 2) (lv' := [(0, .ref a0), (1, .int a1), (2, .int a2), (3, .ref a3)]) (kc' := 0) (ks' := 0) (st := [.int (0 : Int32), .ref a3]) [.int a1, .int a2] (m_X7_machine hW w a0 h0 a1 a2 _ hb3) zc7 h0 zy_X7_machine gw892 gw893 gw891 (Nat.le_of_ble_eq_true rfl) (Nat.le_of_ble_eq_true rfl) (Nat.le_of_ble_eq_true rfl) (Nat.le_of_ble_eq_true rfl) (zal hW) rfl dL_machine_5 ⟨tableOf [], _, tableOf [(0, 10, 17, 13)], rfl, zCt1_ok _ trivial, rfl, by decide, rfl, gw547, by decide +kernel⟩ (Or.inr ⟨dL_machine_13, rfl⟩) (Nat.le_of_ble_eq_true rfl) rfl ?_
      refine z_iconst dL_machine_15 zi_1 ?_
      exact z_iret zemS rfl dL_machine_16
    refine z_ite _ (fun qx => ?_) (fun qx => ?_)
    · subst qx
      refine z_callVXt (hp := 17) (k := 4) (len := 2) (lv' := [(0, .ref a0), (1, .int a1), (2, .int a2), (3, .ref a3)]) (kc' := 0) (ks' := 0) (st := [.int (0 : Int32), .ref a3]) [.int a1, .int a2] (m_X7_machine hW w a0 h0 a1 a2 _ hb3) zc7 h0 zy_X7_machine gw892 gw893 gw891 (Nat.le_of_ble_eq_true rfl) (Nat.le_of_ble_eq_true rfl) (Nat.le_of_ble_eq_true rfl) (Nat.le_of_ble_eq_true rfl) (zal hW) rfl dL_machine_5 ⟨tableOf [(0, 10, 13, 23)], _, tableOf [], rfl, zCt1_ok _ ⟨⟨by decide, "java/lang/IndexOutOfBoundsException", gw547, by decide +kernel⟩, trivial⟩, rfl, by decide, rfl, gw413, by decide +kernel⟩ (Or.inr ⟨dL_machine_17, rfl⟩) (Nat.le_of_ble_eq_true rfl) rfl ?_
      refine z_iconst dL_machine_19 zi_2 ?_
      exact z_iret zemS rfl dL_machine_20
    exact z_none
  refine z_callVXr (kc' := 0) (ks' := 0) (v := (some (.int v1))) (S1 := S) (w1 := w2) (st := [.int (0 : Int32), .ref a3]) [.int a1, .int a2] (m_X7_machine hW w a0 h0 a1 a2 _ hb3) zc7 h0 zy_X7_machine gw892 gw893 gw891 (Nat.le_of_ble_eq_true rfl) (Nat.le_of_ble_eq_true rfl) (Nat.le_of_ble_eq_true rfl) (Nat.le_of_ble_eq_true rfl) (zal hW) rfl dL_machine_5 (z_at 8 _ [.int v1, .int (0 : Int32), .ref a3] rfl rfl rfl ?_)
  dsimp only [zbx]
  refine z_i2l (v := (v1).toInt64) dL_machine_8 rfl ?_
  refine z_chk (fun c5 => ?_)
  refine z_last h3 c5 dL_machine_9 ?_
  refine z_goto 21 dL_machine_10 rfl (z_iconst dL_machine_21 zi_0 ?_)
  exact z_iret zemSc rfl dL_machine_22

theorem zy_L_machine : zYh yL_machine cL_machine 5 (some .int) [(0, 10, 13, 23), (0, 10, 17, 13)] 4 := ⟨gw890, gw0, ⟨by decide +kernel, by decide +kernel, by decide +kernel⟩, (Nat.le_of_ble_eq_true rfl)⟩
theorem m_L_machine {E : ZE} {S : Zs} (hW : zWF S) (w : Zw) (a0 : Nat) (h0 : zObj S a0 7) (a1 : Int32) (a2 : Int32) (a3 : Nat) (h3 : zArr S a3 3) : ∀ i, f_L_machine S w a0 a1 a2 a3 = some i → zMh E yL_machine cL_machine 5 (some .int) [(0, 10, 13, 23), (0, 10, 17, 13)] 8 2 12 [.ref a0, .int a1, .int a2, .ref a3] S w ((emS eI S) i) :=
  fun i hi => z_enterH (by decide +kernel) (Nat.le_of_ble_eq_true rfl) (mw_L_machine hW w a0 h0 a1 a2 a3 h3 i hi)
/-! law: L_job -/
abbrev i_L_job : Zm := (yL_job.cls, cL_job, 5, (some .int), [(0, 10, 13, 23), (0, 10, 17, 13)], yL_job.name)
def f_L_job (S : Zs) (w : Zw) (a0 : Nat) (a1 : Int32) (a2 : Int32) (a3 : Nat) : Option (Int32 × (Nat → Nat → Int64) × (Nat → Nat → UInt64) × Zw) :=
  zbx (f_X7_job S w a0 a1 a2) (fun v1 w2 => if zin (0 : Int32) (zlen S a3) = true then some ((0 : Int32), (zup S.cl a3 (zix (0 : Int32)) ((v1).toInt64)), S.cd, w2) else none) (fun e w9 => if e = "java/lang/IndexOutOfBoundsException" then some ((1 : Int32), S.cl, S.cd, w9) else if e = "java/lang/IllegalArgumentException" then some ((2 : Int32), S.cl, S.cd, w9) else none)
theorem mw_L_job {E : ZE} {S : Zs} (hW : zWF S) (w : Zw) (a0 : Nat) (h0 : zObj S a0 7) (a1 : Int32) (a2 : Int32) (a3 : Nat) (h3 : zArr S a3 3) : zOk (E, i_L_job, 9) 1 6 S w 0 [(0, .ref a0), (1, .int a1), (2, .int a2), (3, .ref a3)] [] (emS eI S) (f_L_job S w a0 a1 a2 a3) := by
  unfold f_L_job
  refine z_aload_n 3 dL_job_0 rfl (z_iconst dL_job_1 zi_0 (z_aload_n 0 dL_job_2 rfl (z_iload_n 1 dL_job_3 rfl (z_iload_n 2 dL_job_4 rfl ?_))))
  refine z_bindX (fun j9 hb3 => ?_)
  obtain ⟨v1 | e4, w2⟩ := j9
  case inr =>
    dsimp only [zbx]
    refine z_ite _ (fun qx => ?_) (fun qx => ?_)
    · subst qx
      refine z_callVXt (hp := 13) (k := 4) (len := 2) (lv' := [(0, .ref a0), (1, .int a1), (2, .int a2), (3, .ref a3)]) (kc' := 0) (ks' := 0) (st := [.int (0 : Int32), .ref a3]) [.int a1, .int a2] (m_X7_job hW w a0 h0 a1 a2 _ hb3) zc7 h0 zy_X7_job gw921 gw922 gw920 (Nat.le_of_ble_eq_true rfl) (Nat.le_of_ble_eq_true rfl) (Nat.le_of_ble_eq_true rfl) (Nat.le_of_ble_eq_true rfl) (zal hW) rfl dL_job_5 ⟨tableOf [], _, tableOf [(0, 10, 17, 13)], rfl, zCt1_ok _ trivial, rfl, by decide, rfl, gw547, by decide +kernel⟩ (Or.inr ⟨dL_job_13, rfl⟩) (Nat.le_of_ble_eq_true rfl) rfl ?_
      refine z_iconst dL_job_15 zi_1 ?_
      exact z_iret zemS rfl dL_job_16
    refine z_ite _ (fun qx => ?_) (fun qx => ?_)
    · subst qx
      refine z_callVXt (hp := 17) (k := 4) (len := 2) (lv' := [(0, .ref a0), (1, .int a1), (2, .int a2), (3, .ref a3)]) (kc' := 0) (ks' := 0) (st := [.int (0 : Int32), .ref a3]) [.int a1, .int a2] (m_X7_job hW w a0 h0 a1 a2 _ hb3) zc7 h0 zy_X7_job gw921 gw922 gw920 (Nat.le_of_ble_eq_true rfl) (Nat.le_of_ble_eq_true rfl) (Nat.le_of_ble_eq_true rfl) (Nat.le_of_ble_eq_true rfl) (zal hW) rfl dL_job_5 ⟨tableOf [(0, 10, 13, 23)], _, tableOf [], rfl, zCt1_ok _ ⟨⟨by decide, "java/lang/IndexOutOfBoundsException", gw547, by decide +kernel⟩, trivial⟩, rfl, by decide, rfl, gw413, by decide +kernel⟩ (Or.inr ⟨dL_job_17, rfl⟩) (Nat.le_of_ble_eq_true rfl) rfl ?_
      refine z_iconst dL_job_19 zi_2 ?_
      exact z_iret zemS rfl dL_job_20
    exact z_none
  refine z_callVXr (kc' := 0) (ks' := 0) (v := (some (.int v1))) (S1 := S) (w1 := w2) (st := [.int (0 : Int32), .ref a3]) [.int a1, .int a2] (m_X7_job hW w a0 h0 a1 a2 _ hb3) zc7 h0 zy_X7_job gw921 gw922 gw920 (Nat.le_of_ble_eq_true rfl) (Nat.le_of_ble_eq_true rfl) (Nat.le_of_ble_eq_true rfl) (Nat.le_of_ble_eq_true rfl) (zal hW) rfl dL_job_5 (z_at 8 _ [.int v1, .int (0 : Int32), .ref a3] rfl rfl rfl ?_)
  dsimp only [zbx]
  refine z_i2l (v := (v1).toInt64) dL_job_8 rfl ?_
  refine z_chk (fun c5 => ?_)
  refine z_last h3 c5 dL_job_9 ?_
  refine z_goto 21 dL_job_10 rfl (z_iconst dL_job_21 zi_0 ?_)
  exact z_iret zemSc rfl dL_job_22

theorem zy_L_job : zYh yL_job cL_job 5 (some .int) [(0, 10, 13, 23), (0, 10, 17, 13)] 4 := ⟨gw919, gw0, ⟨by decide +kernel, by decide +kernel, by decide +kernel⟩, (Nat.le_of_ble_eq_true rfl)⟩
theorem m_L_job {E : ZE} {S : Zs} (hW : zWF S) (w : Zw) (a0 : Nat) (h0 : zObj S a0 7) (a1 : Int32) (a2 : Int32) (a3 : Nat) (h3 : zArr S a3 3) : ∀ i, f_L_job S w a0 a1 a2 a3 = some i → zMh E yL_job cL_job 5 (some .int) [(0, 10, 13, 23), (0, 10, 17, 13)] 9 1 6 [.ref a0, .int a1, .int a2, .ref a3] S w ((emS eI S) i) :=
  fun i hi => z_enterH (by decide +kernel) (Nat.le_of_ble_eq_true rfl) (mw_L_job hW w a0 h0 a1 a2 a3 h3 i hi)
/-! law: L_account -/
abbrev i_L_account : Zm := (yL_account.cls, cL_account, 4, (some .int), [(0, 9, 12, 13)], yL_account.name)
def f_L_account (S : Zs) (w : Zw) (a0 : Nat) (a1 : Int32) (a2 : Nat) : Option (Int32 × (Nat → Nat → Int64) × (Nat → Nat → UInt64) × Zw) :=
  zbx (f_X7_account S w a0 a1) (fun v1 w2 => if zin (0 : Int32) (zlen S a2) = true then some ((0 : Int32), (zup S.cl a2 (zix (0 : Int32)) ((v1).toInt64)), S.cd, w2) else none) (fun e w9 => if e = "java/lang/IllegalArgumentException" then some ((1 : Int32), S.cl, S.cd, w9) else none)
theorem mw_L_account {E : ZE} {S : Zs} (hW : zWF S) (w : Zw) (a0 : Nat) (h0 : zObj S a0 7) (a1 : Int32) (a2 : Nat) (h2 : zArr S a2 3) : zOk (E, i_L_account, 7) 1 6 S w 0 [(0, .ref a0), (1, .int a1), (2, .ref a2)] [] (emS eI S) (f_L_account S w a0 a1 a2) := by
  unfold f_L_account
  refine z_aload_n 2 dL_account_0 rfl (z_iconst dL_account_1 zi_0 (z_aload_n 0 dL_account_2 rfl (z_iload_n 1 dL_account_3 rfl ?_)))
  refine z_bindX (fun j9 hb3 => ?_)
  obtain ⟨v1 | e4, w2⟩ := j9
  case inr =>
    dsimp only [zbx]
    refine z_ite _ (fun qx => ?_) (fun qx => ?_)
    · subst qx
      refine z_callVXt (hp := 12) (k := 3) (len := 1) (lv' := [(0, .ref a0), (1, .int a1), (2, .ref a2)]) (kc' := 0) (ks' := 0) (st := [.int (0 : Int32), .ref a2]) [.int a1] (m_X7_account hW w a0 h0 a1 _ hb3) zc7 h0 zy_X7_account gw931 gw932 gw930 (Nat.le_of_ble_eq_true rfl) (Nat.le_of_ble_eq_true rfl) (Nat.le_of_ble_eq_true rfl) (Nat.le_of_ble_eq_true rfl) (zal hW) rfl dL_account_4 ⟨tableOf [], _, tableOf [], rfl, zCt1_ok _ trivial, rfl, by decide, rfl, gw413, by decide +kernel⟩ (Or.inl ⟨3, rfl, dL_account_12, rfl⟩) (Nat.le_of_ble_eq_true rfl) rfl ?_
      refine z_iconst dL_account_13 zi_1 ?_
      exact z_iret zemS rfl dL_account_14
    exact z_none
  refine z_callVXr (kc' := 0) (ks' := 0) (v := (some (.int v1))) (S1 := S) (w1 := w2) (st := [.int (0 : Int32), .ref a2]) [.int a1] (m_X7_account hW w a0 h0 a1 _ hb3) zc7 h0 zy_X7_account gw931 gw932 gw930 (Nat.le_of_ble_eq_true rfl) (Nat.le_of_ble_eq_true rfl) (Nat.le_of_ble_eq_true rfl) (Nat.le_of_ble_eq_true rfl) (zal hW) rfl dL_account_4 (z_at 7 _ [.int v1, .int (0 : Int32), .ref a2] rfl rfl rfl ?_)
  dsimp only [zbx]
  refine z_i2l (v := (v1).toInt64) dL_account_7 rfl ?_
  refine z_chk (fun c5 => ?_)
  refine z_last h2 c5 dL_account_8 ?_
  refine z_goto 15 dL_account_9 rfl (z_iconst dL_account_15 zi_0 ?_)
  exact z_iret zemSc rfl dL_account_16

theorem zy_L_account : zYh yL_account cL_account 4 (some .int) [(0, 9, 12, 13)] 3 := ⟨gw929, gw0, ⟨by decide +kernel, by decide +kernel, by decide +kernel⟩, (Nat.le_of_ble_eq_true rfl)⟩
theorem m_L_account {E : ZE} {S : Zs} (hW : zWF S) (w : Zw) (a0 : Nat) (h0 : zObj S a0 7) (a1 : Int32) (a2 : Nat) (h2 : zArr S a2 3) : ∀ i, f_L_account S w a0 a1 a2 = some i → zMh E yL_account cL_account 4 (some .int) [(0, 9, 12, 13)] 7 1 6 [.ref a0, .int a1, .ref a2] S w ((emS eI S) i) :=
  fun i hi => z_enterH (by decide +kernel) (Nat.le_of_ble_eq_true rfl) (mw_L_account hW w a0 h0 a1 a2 h2 i hi)
/-! law: L_load -/
abbrev i_L_load : Zm := (yL_load.cls, cL_load, 4, (some .int), [(0, 9, 12, 23), (0, 9, 15, 86)], yL_load.name)
def f_L_load (S : Zs) (w : Zw) (a0 : Nat) (a1 : Int32) (a2 : Nat) : Option (Int32 × (Nat → Nat → Int64) × (Nat → Nat → UInt64) × Zw) :=
  zbx (f_X7_load S w a0 a1) (fun v1 w2 => if zn64 (FP.f2d v1) = true then if zin (0 : Int32) (zlen S a2) = true then some ((0 : Int32), S.cl, (zup S.cd a2 (zix (0 : Int32)) (FP.f2d v1)), w2) else none else none) (fun e w9 => if e = "java/lang/IndexOutOfBoundsException" then some ((1 : Int32), S.cl, S.cd, w9) else if e = "java/lang/ArithmeticException" then some ((2 : Int32), S.cl, S.cd, w9) else none)
theorem mw_L_load {E : ZE} {S : Zs} (hW : zWF S) (w : Zw) (a0 : Nat) (h0 : zObj S a0 7) (a1 : Int32) (a2 : Nat) (h2 : zArr S a2 4) : zOk (E, i_L_load, 8) 2 12 S w 0 [(0, .ref a0), (1, .int a1), (2, .ref a2)] [] (emS eI S) (f_L_load S w a0 a1 a2) := by
  unfold f_L_load
  refine z_aload_n 2 dL_load_0 rfl (z_iconst dL_load_1 zi_0 (z_aload_n 0 dL_load_2 rfl (z_iload_n 1 dL_load_3 rfl ?_)))
  refine z_bindX (fun j9 hb3 => ?_)
  obtain ⟨v1 | e4, w2⟩ := j9
  case inr =>
    dsimp only [zbx]
    refine z_ite _ (fun qx => ?_) (fun qx => ?_)
    · subst qx
      refine z_callVXt (hp := 12) (k := 3) (len := 1) (lv' := [(0, .ref a0), (1, .int a1), (2, .ref a2)]) (kc' := 0) (ks' := 0) (st := [.int (0 : Int32), .ref a2]) [.int a1] (m_X7_load hW w a0 h0 a1 _ hb3) zc7 h0 zy_X7_load gw969 gw970 gw968 (Nat.le_of_ble_eq_true rfl) (Nat.le_of_ble_eq_true rfl) (Nat.le_of_ble_eq_true rfl) (Nat.le_of_ble_eq_true rfl) (zal hW) rfl dL_load_4 ⟨tableOf [], _, tableOf [(0, 9, 15, 86)], rfl, zCt1_ok _ trivial, rfl, by decide, rfl, gw547, by decide +kernel⟩ (Or.inl ⟨3, rfl, dL_load_12, rfl⟩) (Nat.le_of_ble_eq_true rfl) rfl ?_
      refine z_iconst dL_load_13 zi_1 ?_
      exact z_iret zemS rfl dL_load_14
    refine z_ite _ (fun qx => ?_) (fun qx => ?_)
    · subst qx
      refine z_callVXt (hp := 15) (k := 3) (len := 1) (lv' := [(0, .ref a0), (1, .int a1), (2, .ref a2)]) (kc' := 0) (ks' := 0) (st := [.int (0 : Int32), .ref a2]) [.int a1] (m_X7_load hW w a0 h0 a1 _ hb3) zc7 h0 zy_X7_load gw969 gw970 gw968 (Nat.le_of_ble_eq_true rfl) (Nat.le_of_ble_eq_true rfl) (Nat.le_of_ble_eq_true rfl) (Nat.le_of_ble_eq_true rfl) (zal hW) rfl dL_load_4 ⟨tableOf [(0, 9, 12, 23)], _, tableOf [], rfl, zCt1_ok _ ⟨⟨by decide, "java/lang/IndexOutOfBoundsException", gw547, by decide +kernel⟩, trivial⟩, rfl, by decide, rfl, gw954, by decide +kernel⟩ (Or.inl ⟨3, rfl, dL_load_15, rfl⟩) (Nat.le_of_ble_eq_true rfl) rfl ?_
      refine z_iconst dL_load_16 zi_2 ?_
      exact z_iret zemS rfl dL_load_17
    exact z_none
  refine z_callVXr (kc' := 0) (ks' := 0) (v := (some (.float v1))) (S1 := S) (w1 := w2) (st := [.int (0 : Int32), .ref a2]) [.int a1] (m_X7_load hW w a0 h0 a1 _ hb3) zc7 h0 zy_X7_load gw969 gw970 gw968 (Nat.le_of_ble_eq_true rfl) (Nat.le_of_ble_eq_true rfl) (Nat.le_of_ble_eq_true rfl) (Nat.le_of_ble_eq_true rfl) (zal hW) rfl dL_load_4 (z_at 7 _ [.float v1, .int (0 : Int32), .ref a2] rfl rfl rfl ?_)
  dsimp only [zbx]
  refine z_chk (fun c5 => ?_)
  refine z_f2d dL_load_7 (zn64_ok c5) ?_
  refine z_chk (fun c6 => ?_)
  refine z_dast h2 c6 dL_load_8 ?_
  refine z_goto 18 dL_load_9 rfl (z_iconst dL_load_18 zi_0 ?_)
  exact z_iret zemSc rfl dL_load_19

theorem zy_L_load : zYh yL_load cL_load 4 (some .int) [(0, 9, 12, 23), (0, 9, 15, 86)] 3 := ⟨gw953, gw0, ⟨by decide +kernel, by decide +kernel, by decide +kernel⟩, (Nat.le_of_ble_eq_true rfl)⟩
theorem m_L_load {E : ZE} {S : Zs} (hW : zWF S) (w : Zw) (a0 : Nat) (h0 : zObj S a0 7) (a1 : Int32) (a2 : Nat) (h2 : zArr S a2 4) : ∀ i, f_L_load S w a0 a1 a2 = some i → zMh E yL_load cL_load 4 (some .int) [(0, 9, 12, 23), (0, 9, 15, 86)] 8 2 12 [.ref a0, .int a1, .ref a2] S w ((emS eI S) i) :=
  fun i hi => z_enterH (by decide +kernel) (Nat.le_of_ble_eq_true rfl) (mw_L_load hW w a0 h0 a1 a2 h2 i hi)
/-! law: L_meanJob -/
abbrev i_L_meanJob : Zm := (yL_meanJob.cls, cL_meanJob, 3, (some .int), [(0, 7, 10, 86)], yL_meanJob.name)
def f_L_meanJob (S : Zs) (w : Zw) (a0 : Nat) (a1 : Nat) : Option (Int32 × (Nat → Nat → Int64) × (Nat → Nat → UInt64) × Zw) :=
  zbx (f_X7_meanJob S w a0) (fun v1 w2 => if zin (0 : Int32) (zlen S a1) = true then some ((0 : Int32), S.cl, (zup S.cd a1 (zix (0 : Int32)) v1), w2) else none) (fun e w9 => if e = "java/lang/ArithmeticException" then some ((1 : Int32), S.cl, S.cd, w9) else none)
theorem mw_L_meanJob {E : ZE} {S : Zs} (hW : zWF S) (w : Zw) (a0 : Nat) (h0 : zObj S a0 7) (a1 : Nat) (h1 : zArr S a1 4) : zOk (E, i_L_meanJob, 7) 1 6 S w 0 [(0, .ref a0), (1, .ref a1)] [] (emS eI S) (f_L_meanJob S w a0 a1) := by
  unfold f_L_meanJob
  refine z_aload_n 1 dL_meanJob_0 rfl (z_iconst dL_meanJob_1 zi_0 (z_aload_n 0 dL_meanJob_2 rfl ?_))
  refine z_bindX (fun j9 hb3 => ?_)
  obtain ⟨v1 | e4, w2⟩ := j9
  case inr =>
    dsimp only [zbx]
    refine z_ite _ (fun qx => ?_) (fun qx => ?_)
    · subst qx
      refine z_callVXt (hp := 10) (k := 2) (len := 1) (lv' := [(0, .ref a0), (1, .ref a1)]) (kc' := 0) (ks' := 0) (st := [.int (0 : Int32), .ref a1]) [] (m_X7_meanJob hW w a0 h0 _ hb3) zc7 h0 zy_X7_meanJob gw979 gw980 gw978 (Nat.le_of_ble_eq_true rfl) (Nat.le_of_ble_eq_true rfl) (Nat.le_of_ble_eq_true rfl) (Nat.le_of_ble_eq_true rfl) (zal hW) rfl dL_meanJob_3 ⟨tableOf [], _, tableOf [], rfl, zCt1_ok _ trivial, rfl, by decide, rfl, gw954, by decide +kernel⟩ (Or.inl ⟨2, rfl, dL_meanJob_10, rfl⟩) (Nat.le_of_ble_eq_true rfl) rfl ?_
      refine z_iconst dL_meanJob_11 zi_1 ?_
      exact z_iret zemS rfl dL_meanJob_12
    exact z_none
  refine z_callVXr (kc' := 0) (ks' := 0) (v := (some (.double v1))) (S1 := S) (w1 := w2) (st := [.int (0 : Int32), .ref a1]) [] (m_X7_meanJob hW w a0 h0 _ hb3) zc7 h0 zy_X7_meanJob gw979 gw980 gw978 (Nat.le_of_ble_eq_true rfl) (Nat.le_of_ble_eq_true rfl) (Nat.le_of_ble_eq_true rfl) (Nat.le_of_ble_eq_true rfl) (zal hW) rfl dL_meanJob_3 (z_at 6 _ [.double v1, .int (0 : Int32), .ref a1] rfl rfl rfl ?_)
  dsimp only [zbx]
  refine z_chk (fun c5 => ?_)
  refine z_dast h1 c5 dL_meanJob_6 ?_
  refine z_goto 13 dL_meanJob_7 rfl (z_iconst dL_meanJob_13 zi_0 ?_)
  exact z_iret zemSc rfl dL_meanJob_14

theorem zy_L_meanJob : zYh yL_meanJob cL_meanJob 3 (some .int) [(0, 7, 10, 86)] 2 := ⟨gw977, gw0, ⟨by decide +kernel, by decide +kernel, by decide +kernel⟩, (Nat.le_of_ble_eq_true rfl)⟩
theorem m_L_meanJob {E : ZE} {S : Zs} (hW : zWF S) (w : Zw) (a0 : Nat) (h0 : zObj S a0 7) (a1 : Nat) (h1 : zArr S a1 4) : ∀ i, f_L_meanJob S w a0 a1 = some i → zMh E yL_meanJob cL_meanJob 3 (some .int) [(0, 7, 10, 86)] 7 1 6 [.ref a0, .ref a1] S w ((emS eI S) i) :=
  fun i hi => z_enterH (by decide +kernel) (Nat.le_of_ble_eq_true rfl) (mw_L_meanJob hW w a0 h0 a1 h1 i hi)
/-! law: L_report -/
abbrev i_L_report : Zm := (yL_report.cls, cL_report, 5, (some .int), [(0, 10, 13, 45), (0, 10, 17, 13)], yL_report.name)
def f_L_report (S : Zs) (w : Zw) (a0 : Nat) (a1 : Int32) (a2 : Int32) (a3 : Nat) : Option (Int32 × (Nat → Nat → Int64) × (Nat → Nat → UInt64) × Zw) :=
  zbx (f_X7_report S w a0 a1 a2) (fun v1 w2 => if zin (0 : Int32) (zlen S a3) = true then some ((0 : Int32), (zup S.cl a3 (zix (0 : Int32)) ((v1).toInt64)), S.cd, w2) else none) (fun e w9 => if e = "java/util/NoSuchElementException" then some ((1 : Int32), S.cl, S.cd, w9) else if e = "java/lang/IllegalArgumentException" then some ((2 : Int32), S.cl, S.cd, w9) else none)
theorem mw_L_report {E : ZE} {S : Zs} (hW : zWF S) (w : Zw) (a0 : Nat) (h0 : zObj S a0 7) (a1 : Int32) (a2 : Int32) (a3 : Nat) (h3 : zArr S a3 3) : zOk (E, i_L_report, 7) 1 6 S w 0 [(0, .ref a0), (1, .int a1), (2, .int a2), (3, .ref a3)] [] (emS eI S) (f_L_report S w a0 a1 a2 a3) := by
  unfold f_L_report
  refine z_aload_n 3 dL_report_0 rfl (z_iconst dL_report_1 zi_0 (z_aload_n 0 dL_report_2 rfl (z_iload_n 1 dL_report_3 rfl (z_iload_n 2 dL_report_4 rfl ?_))))
  refine z_bindX (fun j9 hb3 => ?_)
  obtain ⟨v1 | e4, w2⟩ := j9
  case inr =>
    dsimp only [zbx]
    refine z_ite _ (fun qx => ?_) (fun qx => ?_)
    · subst qx
      refine z_callVXt (hp := 13) (k := 4) (len := 2) (lv' := [(0, .ref a0), (1, .int a1), (2, .int a2), (3, .ref a3)]) (kc' := 0) (ks' := 0) (st := [.int (0 : Int32), .ref a3]) [.int a1, .int a2] (m_X7_report hW w a0 h0 a1 a2 _ hb3) zc7 h0 zy_X7_report gw988 gw989 gw987 (Nat.le_of_ble_eq_true rfl) (Nat.le_of_ble_eq_true rfl) (Nat.le_of_ble_eq_true rfl) (Nat.le_of_ble_eq_true rfl) (zal hW) rfl dL_report_5 ⟨tableOf [], _, tableOf [(0, 10, 17, 13)], rfl, zCt1_ok _ trivial, rfl, by decide, rfl, gw709, by decide +kernel⟩ (Or.inr ⟨dL_report_13, rfl⟩) (Nat.le_of_ble_eq_true rfl) rfl ?_
      refine z_iconst dL_report_15 zi_1 ?_
      exact z_iret zemS rfl dL_report_16
    refine z_ite _ (fun qx => ?_) (fun qx => ?_)
    · subst qx
      refine z_callVXt (hp := 17) (k := 4) (len := 2) (lv' := [(0, .ref a0), (1, .int a1), (2, .int a2), (3, .ref a3)]) (kc' := 0) (ks' := 0) (st := [.int (0 : Int32), .ref a3]) [.int a1, .int a2] (m_X7_report hW w a0 h0 a1 a2 _ hb3) zc7 h0 zy_X7_report gw988 gw989 gw987 (Nat.le_of_ble_eq_true rfl) (Nat.le_of_ble_eq_true rfl) (Nat.le_of_ble_eq_true rfl) (Nat.le_of_ble_eq_true rfl) (zal hW) rfl dL_report_5 ⟨tableOf [(0, 10, 13, 45)], _, tableOf [], rfl, zCt1_ok _ ⟨⟨by decide, "java/util/NoSuchElementException", gw709, by decide +kernel⟩, trivial⟩, rfl, by decide, rfl, gw413, by decide +kernel⟩ (Or.inr ⟨dL_report_17, rfl⟩) (Nat.le_of_ble_eq_true rfl) rfl ?_
      refine z_iconst dL_report_19 zi_2 ?_
      exact z_iret zemS rfl dL_report_20
    exact z_none
  refine z_callVXr (kc' := 0) (ks' := 0) (v := (some (.int v1))) (S1 := S) (w1 := w2) (st := [.int (0 : Int32), .ref a3]) [.int a1, .int a2] (m_X7_report hW w a0 h0 a1 a2 _ hb3) zc7 h0 zy_X7_report gw988 gw989 gw987 (Nat.le_of_ble_eq_true rfl) (Nat.le_of_ble_eq_true rfl) (Nat.le_of_ble_eq_true rfl) (Nat.le_of_ble_eq_true rfl) (zal hW) rfl dL_report_5 (z_at 8 _ [.int v1, .int (0 : Int32), .ref a3] rfl rfl rfl ?_)
  dsimp only [zbx]
  refine z_i2l (v := (v1).toInt64) dL_report_8 rfl ?_
  refine z_chk (fun c5 => ?_)
  refine z_last h3 c5 dL_report_9 ?_
  refine z_goto 21 dL_report_10 rfl (z_iconst dL_report_21 zi_0 ?_)
  exact z_iret zemSc rfl dL_report_22

theorem zy_L_report : zYh yL_report cL_report 5 (some .int) [(0, 10, 13, 45), (0, 10, 17, 13)] 4 := ⟨gw986, gw0, ⟨by decide +kernel, by decide +kernel, by decide +kernel⟩, (Nat.le_of_ble_eq_true rfl)⟩
theorem m_L_report {E : ZE} {S : Zs} (hW : zWF S) (w : Zw) (a0 : Nat) (h0 : zObj S a0 7) (a1 : Int32) (a2 : Int32) (a3 : Nat) (h3 : zArr S a3 3) : ∀ i, f_L_report S w a0 a1 a2 a3 = some i → zMh E yL_report cL_report 5 (some .int) [(0, 10, 13, 45), (0, 10, 17, 13)] 7 1 6 [.ref a0, .int a1, .int a2, .ref a3] S w ((emS eI S) i) :=
  fun i hi => z_enterH (by decide +kernel) (Nat.le_of_ble_eq_true rfl) (mw_L_report hW w a0 h0 a1 a2 a3 h3 i hi)
/-! law: L_feed -/
abbrev i_L_feed : Zm := (yL_feed.cls, cL_feed, 4, (some .int), [(0, 9, 12, 15)], yL_feed.name)
def f_L_feed (S : Zs) (w : Zw) (a0 : Nat) (a1 : Int32) (a2 : Nat) : Option (Int32 × (Nat → Nat → Int64) × (Nat → Nat → UInt64) × Zw) :=
  zbx (f_X7_feed S w a0 a1) (fun v1 w2 => if zin (0 : Int32) (zlen S a2) = true then some ((0 : Int32), (zup S.cl a2 (zix (0 : Int32)) ((v1).toInt64)), S.cd, w2) else none) (fun e w9 => if e = "java/lang/IllegalStateException" then some ((1 : Int32), S.cl, S.cd, w9) else none)
theorem mw_L_feed {E : ZE} {S : Zs} (hW : zWF S) (w : Zw) (a0 : Nat) (h0 : zObj S a0 7) (a1 : Int32) (a2 : Nat) (h2 : zArr S a2 3) : zOk (E, i_L_feed, 7) 1 6 S w 0 [(0, .ref a0), (1, .int a1), (2, .ref a2)] [] (emS eI S) (f_L_feed S w a0 a1 a2) := by
  unfold f_L_feed
  refine z_aload_n 2 dL_feed_0 rfl (z_iconst dL_feed_1 zi_0 (z_aload_n 0 dL_feed_2 rfl (z_iload_n 1 dL_feed_3 rfl ?_)))
  refine z_bindX (fun j9 hb3 => ?_)
  obtain ⟨v1 | e4, w2⟩ := j9
  case inr =>
    dsimp only [zbx]
    refine z_ite _ (fun qx => ?_) (fun qx => ?_)
    · subst qx
      refine z_callVXt (hp := 12) (k := 3) (len := 1) (lv' := [(0, .ref a0), (1, .int a1), (2, .ref a2)]) (kc' := 0) (ks' := 0) (st := [.int (0 : Int32), .ref a2]) [.int a1] (m_X7_feed hW w a0 h0 a1 _ hb3) zc7 h0 zy_X7_feed gw997 gw998 gw996 (Nat.le_of_ble_eq_true rfl) (Nat.le_of_ble_eq_true rfl) (Nat.le_of_ble_eq_true rfl) (Nat.le_of_ble_eq_true rfl) (zal hW) rfl dL_feed_4 ⟨tableOf [], _, tableOf [], rfl, zCt1_ok _ trivial, rfl, by decide, rfl, gw414, by decide +kernel⟩ (Or.inl ⟨3, rfl, dL_feed_12, rfl⟩) (Nat.le_of_ble_eq_true rfl) rfl ?_
      refine z_iconst dL_feed_13 zi_1 ?_
      exact z_iret zemS rfl dL_feed_14
    exact z_none
  refine z_callVXr (kc' := 0) (ks' := 0) (v := (some (.int v1))) (S1 := S) (w1 := w2) (st := [.int (0 : Int32), .ref a2]) [.int a1] (m_X7_feed hW w a0 h0 a1 _ hb3) zc7 h0 zy_X7_feed gw997 gw998 gw996 (Nat.le_of_ble_eq_true rfl) (Nat.le_of_ble_eq_true rfl) (Nat.le_of_ble_eq_true rfl) (Nat.le_of_ble_eq_true rfl) (zal hW) rfl dL_feed_4 (z_at 7 _ [.int v1, .int (0 : Int32), .ref a2] rfl rfl rfl ?_)
  dsimp only [zbx]
  refine z_i2l (v := (v1).toInt64) dL_feed_7 rfl ?_
  refine z_chk (fun c5 => ?_)
  refine z_last h2 c5 dL_feed_8 ?_
  refine z_goto 15 dL_feed_9 rfl (z_iconst dL_feed_15 zi_0 ?_)
  exact z_iret zemSc rfl dL_feed_16

theorem zy_L_feed : zYh yL_feed cL_feed 4 (some .int) [(0, 9, 12, 15)] 3 := ⟨gw995, gw0, ⟨by decide +kernel, by decide +kernel, by decide +kernel⟩, (Nat.le_of_ble_eq_true rfl)⟩
theorem m_L_feed {E : ZE} {S : Zs} (hW : zWF S) (w : Zw) (a0 : Nat) (h0 : zObj S a0 7) (a1 : Int32) (a2 : Nat) (h2 : zArr S a2 3) : ∀ i, f_L_feed S w a0 a1 a2 = some i → zMh E yL_feed cL_feed 4 (some .int) [(0, 9, 12, 15)] 7 1 6 [.ref a0, .int a1, .ref a2] S w ((emS eI S) i) :=
  fun i hi => z_enterH (by decide +kernel) (Nat.le_of_ble_eq_true rfl) (mw_L_feed hW w a0 h0 a1 a2 h2 i hi)
/-! law: L_perform -/
abbrev i_L_perform : Zm := (yL_perform.cls, cL_perform, 3, (some .int), [(0, 8, 11, 17)], yL_perform.name)
def f_L_perform (S : Zs) (w : Zw) (a0 : Nat) (a1 : Nat) : Option (Int32 × (Nat → Nat → Int64) × (Nat → Nat → UInt64) × Zw) :=
  zbx (f_X7_perform S w a0) (fun v1 w2 => if zin (0 : Int32) (zlen S a1) = true then some ((0 : Int32), (zup S.cl a1 (zix (0 : Int32)) ((v1).toInt64)), S.cd, w2) else none) (fun e w9 => if e = "java/lang/UnsupportedOperationException" then some ((1 : Int32), S.cl, S.cd, w9) else none)
theorem mw_L_perform {E : ZE} {S : Zs} (hW : zWF S) (w : Zw) (a0 : Nat) (h0 : zObj S a0 7) (a1 : Nat) (h1 : zArr S a1 3) : zOk (E, i_L_perform, 13) 1 6 S w 0 [(0, .ref a0), (1, .ref a1)] [] (emS eI S) (f_L_perform S w a0 a1) := by
  unfold f_L_perform
  refine z_aload_n 1 dL_perform_0 rfl (z_iconst dL_perform_1 zi_0 (z_aload_n 0 dL_perform_2 rfl ?_))
  refine z_bindX (fun j9 hb3 => ?_)
  obtain ⟨v1 | e4, w2⟩ := j9
  case inr =>
    dsimp only [zbx]
    refine z_ite _ (fun qx => ?_) (fun qx => ?_)
    · subst qx
      refine z_callVXt (hp := 11) (k := 2) (len := 1) (lv' := [(0, .ref a0), (1, .ref a1)]) (kc' := 0) (ks' := 0) (st := [.int (0 : Int32), .ref a1]) [] (m_X7_perform hW w a0 h0 _ hb3) zc7 h0 zy_X7_perform gw1013 gw1014 gw1012 (Nat.le_of_ble_eq_true rfl) (Nat.le_of_ble_eq_true rfl) (Nat.le_of_ble_eq_true rfl) (Nat.le_of_ble_eq_true rfl) (zal hW) rfl dL_perform_3 ⟨tableOf [], _, tableOf [], rfl, zCt1_ok _ trivial, rfl, by decide, rfl, gw415, by decide +kernel⟩ (Or.inl ⟨2, rfl, dL_perform_11, rfl⟩) (Nat.le_of_ble_eq_true rfl) rfl ?_
      refine z_iconst dL_perform_12 zi_1 ?_
      exact z_iret zemS rfl dL_perform_13
    exact z_none
  refine z_callVXr (kc' := 0) (ks' := 0) (v := (some (.int v1))) (S1 := S) (w1 := w2) (st := [.int (0 : Int32), .ref a1]) [] (m_X7_perform hW w a0 h0 _ hb3) zc7 h0 zy_X7_perform gw1013 gw1014 gw1012 (Nat.le_of_ble_eq_true rfl) (Nat.le_of_ble_eq_true rfl) (Nat.le_of_ble_eq_true rfl) (Nat.le_of_ble_eq_true rfl) (zal hW) rfl dL_perform_3 (z_at 6 _ [.int v1, .int (0 : Int32), .ref a1] rfl rfl rfl ?_)
  dsimp only [zbx]
  refine z_i2l (v := (v1).toInt64) dL_perform_6 rfl ?_
  refine z_chk (fun c5 => ?_)
  refine z_last h1 c5 dL_perform_7 ?_
  refine z_goto 14 dL_perform_8 rfl (z_iconst dL_perform_14 zi_0 ?_)
  exact z_iret zemSc rfl dL_perform_15

theorem zy_L_perform : zYh yL_perform cL_perform 3 (some .int) [(0, 8, 11, 17)] 2 := ⟨gw1011, gw0, ⟨by decide +kernel, by decide +kernel, by decide +kernel⟩, (Nat.le_of_ble_eq_true rfl)⟩
theorem m_L_perform {E : ZE} {S : Zs} (hW : zWF S) (w : Zw) (a0 : Nat) (h0 : zObj S a0 7) (a1 : Nat) (h1 : zArr S a1 3) : ∀ i, f_L_perform S w a0 a1 = some i → zMh E yL_perform cL_perform 3 (some .int) [(0, 8, 11, 17)] 13 1 6 [.ref a0, .ref a1] S w ((emS eI S) i) :=
  fun i hi => z_enterH (by decide +kernel) (Nat.le_of_ble_eq_true rfl) (mw_L_perform hW w a0 h0 a1 h1 i hi)
/-! law: L_undo -/
abbrev i_L_undo : Zm := (yL_undo.cls, cL_undo, 3, (some .int), [(0, 8, 11, 15)], yL_undo.name)
def f_L_undo (S : Zs) (w : Zw) (a0 : Nat) (a1 : Nat) : Option (Int32 × (Nat → Nat → Int64) × (Nat → Nat → UInt64) × Zw) :=
  zbx (f_X7_undo S w a0) (fun v1 w2 => if zin (0 : Int32) (zlen S a1) = true then some ((0 : Int32), (zup S.cl a1 (zix (0 : Int32)) ((v1).toInt64)), S.cd, w2) else none) (fun e w9 => if e = "java/lang/IllegalStateException" then some ((1 : Int32), S.cl, S.cd, w9) else none)
theorem mw_L_undo {E : ZE} {S : Zs} (hW : zWF S) (w : Zw) (a0 : Nat) (h0 : zObj S a0 7) (a1 : Nat) (h1 : zArr S a1 3) : zOk (E, i_L_undo, 11) 1 6 S w 0 [(0, .ref a0), (1, .ref a1)] [] (emS eI S) (f_L_undo S w a0 a1) := by
  unfold f_L_undo
  refine z_aload_n 1 dL_undo_0 rfl (z_iconst dL_undo_1 zi_0 (z_aload_n 0 dL_undo_2 rfl ?_))
  refine z_bindX (fun j9 hb3 => ?_)
  obtain ⟨v1 | e4, w2⟩ := j9
  case inr =>
    dsimp only [zbx]
    refine z_ite _ (fun qx => ?_) (fun qx => ?_)
    · subst qx
      refine z_callVXt (hp := 11) (k := 2) (len := 1) (lv' := [(0, .ref a0), (1, .ref a1)]) (kc' := 0) (ks' := 0) (st := [.int (0 : Int32), .ref a1]) [] (m_X7_undo hW w a0 h0 _ hb3) zc7 h0 zy_X7_undo gw1073 gw1074 gw1072 (Nat.le_of_ble_eq_true rfl) (Nat.le_of_ble_eq_true rfl) (Nat.le_of_ble_eq_true rfl) (Nat.le_of_ble_eq_true rfl) (zal hW) rfl dL_undo_3 ⟨tableOf [], _, tableOf [], rfl, zCt1_ok _ trivial, rfl, by decide, rfl, gw414, by decide +kernel⟩ (Or.inl ⟨2, rfl, dL_undo_11, rfl⟩) (Nat.le_of_ble_eq_true rfl) rfl ?_
      refine z_iconst dL_undo_12 zi_1 ?_
      exact z_iret zemS rfl dL_undo_13
    exact z_none
  refine z_callVXr (kc' := 0) (ks' := 0) (v := (some (.int v1))) (S1 := S) (w1 := w2) (st := [.int (0 : Int32), .ref a1]) [] (m_X7_undo hW w a0 h0 _ hb3) zc7 h0 zy_X7_undo gw1073 gw1074 gw1072 (Nat.le_of_ble_eq_true rfl) (Nat.le_of_ble_eq_true rfl) (Nat.le_of_ble_eq_true rfl) (Nat.le_of_ble_eq_true rfl) (zal hW) rfl dL_undo_3 (z_at 6 _ [.int v1, .int (0 : Int32), .ref a1] rfl rfl rfl ?_)
  dsimp only [zbx]
  refine z_i2l (v := (v1).toInt64) dL_undo_6 rfl ?_
  refine z_chk (fun c5 => ?_)
  refine z_last h1 c5 dL_undo_7 ?_
  refine z_goto 14 dL_undo_8 rfl (z_iconst dL_undo_14 zi_0 ?_)
  exact z_iret zemSc rfl dL_undo_15

theorem zy_L_undo : zYh yL_undo cL_undo 3 (some .int) [(0, 8, 11, 15)] 2 := ⟨gw1071, gw0, ⟨by decide +kernel, by decide +kernel, by decide +kernel⟩, (Nat.le_of_ble_eq_true rfl)⟩
theorem m_L_undo {E : ZE} {S : Zs} (hW : zWF S) (w : Zw) (a0 : Nat) (h0 : zObj S a0 7) (a1 : Nat) (h1 : zArr S a1 3) : ∀ i, f_L_undo S w a0 a1 = some i → zMh E yL_undo cL_undo 3 (some .int) [(0, 8, 11, 15)] 11 1 6 [.ref a0, .ref a1] S w ((emS eI S) i) :=
  fun i hi => z_enterH (by decide +kernel) (Nat.le_of_ble_eq_true rfl) (mw_L_undo hW w a0 h0 a1 h1 i hi)
/-! law: L_restore -/
abbrev i_L_restore : Zm := (yL_restore.cls, cL_restore, 3, (some .int), [(0, 8, 11, 15)], yL_restore.name)
def f_L_restore (S : Zs) (w : Zw) (a0 : Nat) (a1 : Nat) : Option (Int32 × (Nat → Nat → Int64) × (Nat → Nat → UInt64) × Zw) :=
  zbx (f_X7_restore S w a0) (fun v1 w2 => if zin (0 : Int32) (zlen S a1) = true then some ((0 : Int32), (zup S.cl a1 (zix (0 : Int32)) ((v1).toInt64)), S.cd, w2) else none) (fun e w9 => if e = "java/lang/IllegalStateException" then some ((1 : Int32), S.cl, S.cd, w9) else none)
theorem mw_L_restore {E : ZE} {S : Zs} (hW : zWF S) (w : Zw) (a0 : Nat) (h0 : zObj S a0 7) (a1 : Nat) (h1 : zArr S a1 3) : zOk (E, i_L_restore, 10) 1 6 S w 0 [(0, .ref a0), (1, .ref a1)] [] (emS eI S) (f_L_restore S w a0 a1) := by
  unfold f_L_restore
  refine z_aload_n 1 dL_restore_0 rfl (z_iconst dL_restore_1 zi_0 (z_aload_n 0 dL_restore_2 rfl ?_))
  refine z_bindX (fun j9 hb3 => ?_)
  obtain ⟨v1 | e4, w2⟩ := j9
  case inr =>
    dsimp only [zbx]
    refine z_ite _ (fun qx => ?_) (fun qx => ?_)
    · subst qx
      refine z_callVXt (hp := 11) (k := 2) (len := 1) (lv' := [(0, .ref a0), (1, .ref a1)]) (kc' := 0) (ks' := 0) (st := [.int (0 : Int32), .ref a1]) [] (m_X7_restore hW w a0 h0 _ hb3) zc7 h0 zy_X7_restore gw1089 gw1090 gw1088 (Nat.le_of_ble_eq_true rfl) (Nat.le_of_ble_eq_true rfl) (Nat.le_of_ble_eq_true rfl) (Nat.le_of_ble_eq_true rfl) (zal hW) rfl dL_restore_3 ⟨tableOf [], _, tableOf [], rfl, zCt1_ok _ trivial, rfl, by decide, rfl, gw414, by decide +kernel⟩ (Or.inl ⟨2, rfl, dL_restore_11, rfl⟩) (Nat.le_of_ble_eq_true rfl) rfl ?_
      refine z_iconst dL_restore_12 zi_1 ?_
      exact z_iret zemS rfl dL_restore_13
    exact z_none
  refine z_callVXr (kc' := 0) (ks' := 0) (v := (some (.int v1))) (S1 := S) (w1 := w2) (st := [.int (0 : Int32), .ref a1]) [] (m_X7_restore hW w a0 h0 _ hb3) zc7 h0 zy_X7_restore gw1089 gw1090 gw1088 (Nat.le_of_ble_eq_true rfl) (Nat.le_of_ble_eq_true rfl) (Nat.le_of_ble_eq_true rfl) (Nat.le_of_ble_eq_true rfl) (zal hW) rfl dL_restore_3 (z_at 6 _ [.int v1, .int (0 : Int32), .ref a1] rfl rfl rfl ?_)
  dsimp only [zbx]
  refine z_i2l (v := (v1).toInt64) dL_restore_6 rfl ?_
  refine z_chk (fun c5 => ?_)
  refine z_last h1 c5 dL_restore_7 ?_
  refine z_goto 14 dL_restore_8 rfl (z_iconst dL_restore_14 zi_0 ?_)
  exact z_iret zemSc rfl dL_restore_15

theorem zy_L_restore : zYh yL_restore cL_restore 3 (some .int) [(0, 8, 11, 15)] 2 := ⟨gw1087, gw0, ⟨by decide +kernel, by decide +kernel, by decide +kernel⟩, (Nat.le_of_ble_eq_true rfl)⟩
theorem m_L_restore {E : ZE} {S : Zs} (hW : zWF S) (w : Zw) (a0 : Nat) (h0 : zObj S a0 7) (a1 : Nat) (h1 : zArr S a1 3) : ∀ i, f_L_restore S w a0 a1 = some i → zMh E yL_restore cL_restore 3 (some .int) [(0, 8, 11, 15)] 10 1 6 [.ref a0, .ref a1] S w ((emS eI S) i) :=
  fun i hi => z_enterH (by decide +kernel) (Nat.le_of_ble_eq_true rfl) (mw_L_restore hW w a0 h0 a1 h1 i hi)
end ZWR
