section ZLW
theorem z_sldE {I : Type} {C : Zc} {kc ks : Nat} {S : Zs} {w : Zw} {pc : Nat} {lv : List (Nat × Value)} {st : List Value} {em : I → Zr} {X : Option I} {L a : Nat} {xs : Nat → Int32} {x : Int32} (h1 : C.1.L = L) (h2 : C.1.xs = xs) (ha : a = 0) (hin : zin x L = true) (hd : decode C.cc pc = .ok (.iaload, 1)) (h : zOk C kc ks S w (pc + 1) lv (.int (xs (zix x)) :: st) em X) : zOk C kc ks S w pc lv (.int x :: .ref a :: st) em X := by
  subst h1; subst h2; subst ha
  exact z_sld hin hd h
theorem z_slenE {I : Type} {C : Zc} {kc ks : Nat} {S : Zs} {w : Zw} {pc : Nat} {lv : List (Nat × Value)} {st : List Value} {em : I → Zr} {X : Option I} {L a : Nat} (h1 : C.1.L = L) (ha : a = 0) (hd : decode C.cc pc = .ok (.arraylength, 1)) (h : zOk C kc ks S w (pc + 1) lv (.int (Int32.ofNat L) :: st) em X) : zOk C kc ks S w pc lv (.ref a :: st) em X := by
  subst h1; subst ha
  exact z_slen hd h
abbrev i_L_law : Zm := (yL_law.cls, cL_law, 9, some .boolean, [], yL_law.name)
def f_L_law_j193 (S : Zs) (L : Nat) (xs : Nat → Int32) (w : Zw) (x0 : Nat) (x1 : Nat) (x2 : Nat) (x3 : Nat) (x4 : Nat) (x5 : Int32) (y0 : Int32) (k28 : (Int32 × (Nat → Nat → Int64) × (Nat → Nat → UInt64) × Zw) → Option (Int32 × (Nat → Nat → Int64) × (Nat → Nat → UInt64) × Zw)) : Option (Int32 × (Nat → Nat → Int64) × (Nat → Nat → UInt64) × Zw) :=
  if zin (x5 + (1 : Int32)) L = true then if zin (x5 + (2 : Int32)) L = true then (f_X8_store S w x2 (xs (zix (x5 + (1 : Int32)))) (xs (zix (x5 + (2 : Int32))))).bind fun r10 => if (f_X8_thrown S r10.2 x2) = y0 then (if y0 = 0 then (if zin (0 : Int32) (zlen S x3) = true then if (lg_cmp (S.cl x3 (zix (0 : Int32))) ((r10.1).toInt64)) = 0 then k28 ((x5 + (4 : Int32)), S.cl, S.cd, r10.2) else some ((0 : Int32), S.cl, S.cd, r10.2) else none) else k28 ((x5 + (4 : Int32)), S.cl, S.cd, r10.2)) else some ((0 : Int32), S.cl, S.cd, r10.2) else none else none
theorem m_L_law_j193 {E : ZE} {S : Zs} (hW : zWF S) (w : Zw) (x0 : Nat) (hx0 : x0 = 0) (x1 : Nat) (hx1 : zObj S x1 7) (x2 : Nat) (hx2 : zObj S x2 8) (x3 : Nat) (hx3 : zArr S x3 3) (x4 : Nat) (hx4 : zArr S x4 4) (x5 : Int32) (y0 : Int32) (L : Nat) (xs : Nat → Int32) (hL9 : E.L = L) (hx9 : E.xs = xs) (kn qn : Nat) (k28 : (Int32 × (Nat → Nat → Int64) × (Nat → Nat → UInt64) × Zw) → Option (Int32 × (Nat → Nat → Int64) × (Nat → Nat → UInt64) × Zw)) (hk28 : ∀ a : Int32 × (Nat → Nat → Int64) × (Nat → Nat → UInt64) × Zw, zOk (E, i_L_law, 100) kn qn (zSc S a.2.1 a.2.2.1) a.2.2.2 28 [(0, .ref x0), (1, .ref x1), (2, .ref x2), (3, .ref x3), (4, .ref x4), (5, .int a.1)] [] (emS eI S) (k28 a)) : zOk (E, i_L_law, 100) kn qn S w 193 [(0, .ref x0), (1, .ref x1), (2, .ref x2), (3, .ref x3), (4, .ref x4), (5, .int x5)] [.int y0] (emS eI S) (f_L_law_j193 S L xs w x0 x1 x2 x3 x4 x5 y0 k28) := by
  unfold f_L_law_j193
  refine z_istore (lv' := [(6, .int y0), (0, .ref x0), (1, .ref x1), (2, .ref x2), (3, .ref x3), (4, .ref x4), (5, .int x5)]) dL_law_193 (Nat.le_of_ble_eq_true rfl) rfl (z_aload_n 3 dL_law_195 rfl (z_aload_n 1 dL_law_196 rfl (z_iload 6 dL_law_197 rfl (z_iconst dL_law_199 zi_1 (z_iadd dL_law_200 ?_)))))
  refine z_chk (fun c8 => ?_)
  refine z_sldE hL9 hx9 hx0 c8 dL_law_201 (z_aload_n 1 dL_law_202 rfl (z_iload 6 dL_law_203 rfl (z_iconst dL_law_205 zi_2 (z_iadd dL_law_206 ?_))))
  refine z_chk (fun c9 => ?_)
  refine z_sldE hL9 hx9 hx0 c9 dL_law_207 ?_
  refine z_bind (fun r10 hb11 => ?_)
  refine z_callV (kc' := kn) (ks' := qn) (v := (some (.int r10.1))) (S1 := S) (w1 := r10.2) (st := []) [.int (xs (zix (x5 + (1 : Int32)))), .int (xs (zix (x5 + (2 : Int32))))] (m_X8_store hW w x2 hx2 (xs (zix (x5 + (1 : Int32)))) (xs (zix (x5 + (2 : Int32)))) r10 hb11) zc8 hx2 zy_X8_store gw1190 gw1191 gw1189 (Nat.le_of_ble_eq_true rfl) (Nat.le_of_ble_eq_true rfl) (Nat.le_of_eq (Nat.zero_add _)) (Nat.le_of_eq (Nat.zero_add _)) (zal hW) rfl dL_law_208 (z_at 211 _ [.int r10.1] rfl rfl rfl ?_)
  refine z_istore (lv' := [(7, .int r10.1), (6, .int y0), (0, .ref x0), (1, .ref x1), (2, .ref x2), (3, .ref x3), (4, .ref x4), (5, .int x5)]) dL_law_211 (Nat.le_of_ble_eq_true rfl) rfl (z_aload_n 4 dL_law_213 rfl ?_)
  refine z_callV (kc' := kn) (ks' := qn) (v := (some (.int (f_X8_thrown S r10.2 x2)))) (S1 := S) (w1 := r10.2) (st := []) [] (m_X8_thrown hW r10.2 x2 hx2) zc8 hx2 zy_X8_thrown gw1098 gw1099 gw1097 (Nat.le_of_ble_eq_true rfl) (Nat.le_of_ble_eq_true rfl) (Nat.le_of_eq (Nat.zero_add _)) (Nat.le_of_eq (Nat.zero_add _)) (zal hW) rfl dL_law_214 (z_at 217 _ [.int (f_X8_thrown S r10.2 x2)] rfl rfl rfl ?_)
  refine z_iload 1 dL_law_217 rfl ?_
  refine z_icmp_eq 224 dL_law_219 rfl (fun q12 => ?_) (fun q12 => ?_)
  · refine z_iload 1 dL_law_224 rfl ?_
    refine z_if_ne 241 dL_law_226 rfl (fun q13 => ?_) (fun q13 => ?_)
    · refine z_goto 1970 dL_law_241 rfl (z_iinc (v := (x5 + (4 : Int32))) (lv' := [(5, .int (x5 + (4 : Int32))), (7, .int r10.1), (6, .int y0), (0, .ref x0), (1, .ref x1), (2, .ref x2), (3, .ref x3), (4, .ref x4)]) 7 dL_law_1970 rfl (zi_inc _ zi_4) (Nat.le_of_ble_eq_true rfl) rfl (z_goto 28 dL_law_1973 rfl ?_))
      refine z_sub (lv' := [(0, .ref x0), (1, .ref x1), (2, .ref x2), (3, .ref x3), (4, .ref x4), (5, .int (x5 + (4 : Int32)))]) [3, 4, 5, 6, 7, 0] rfl ?_
      refine z_pc (pc' := 28) rfl ?_
      exact hk28 ((x5 + (4 : Int32)), S.cl, S.cd, r10.2)
    · refine z_aload_n 5 dL_law_229 rfl (z_iconst dL_law_230 zi_0 ?_)
      refine z_chk (fun c14 => ?_)
      refine z_lald hx3 c14 dL_law_231 (z_iload 0 dL_law_232 rfl (z_i2l (v := (r10.1).toInt64) dL_law_234 rfl (z_lcmp dL_law_235 ?_)))
      refine z_if_eq 241 dL_law_236 rfl (fun q15 => ?_) (fun q15 => ?_)
      · refine z_goto 1970 dL_law_241 rfl (z_iinc (v := (x5 + (4 : Int32))) (lv' := [(5, .int (x5 + (4 : Int32))), (7, .int r10.1), (6, .int y0), (0, .ref x0), (1, .ref x1), (2, .ref x2), (3, .ref x3), (4, .ref x4)]) 7 dL_law_1970 rfl (zi_inc _ zi_4) (Nat.le_of_ble_eq_true rfl) rfl (z_goto 28 dL_law_1973 rfl ?_))
        refine z_sub (lv' := [(0, .ref x0), (1, .ref x1), (2, .ref x2), (3, .ref x3), (4, .ref x4), (5, .int (x5 + (4 : Int32)))]) [3, 4, 5, 6, 7, 0] rfl ?_
        refine z_pc (pc' := 28) rfl ?_
        exact hk28 ((x5 + (4 : Int32)), S.cl, S.cd, r10.2)
      · refine z_iconst dL_law_239 zi_0 ?_
        exact z_zret zemS rfl rfl dL_law_240
  · refine z_iconst dL_law_222 zi_0 ?_
    exact z_zret zemS rfl rfl dL_law_223

def f_L_law_j255 (S : Zs) (L : Nat) (xs : Nat → Int32) (w : Zw) (x0 : Nat) (x1 : Nat) (x2 : Nat) (x3 : Nat) (x4 : Nat) (x5 : Int32) (y0 : Int32) (k28 : (Int32 × (Nat → Nat → Int64) × (Nat → Nat → UInt64) × Zw) → Option (Int32 × (Nat → Nat → Int64) × (Nat → Nat → UInt64) × Zw)) : Option (Int32 × (Nat → Nat → Int64) × (Nat → Nat → UInt64) × Zw) :=
  if zin (x5 + (1 : Int32)) L = true then (f_X8_retrieve S w x2 (xs (zix (x5 + (1 : Int32))))).bind fun r21 => if (f_X8_thrown S r21.2 x2) = y0 then (if y0 = 0 then (if zin (0 : Int32) (zlen S x3) = true then if (lg_cmp (S.cl x3 (zix (0 : Int32))) ((r21.1).toInt64)) = 0 then k28 ((x5 + (4 : Int32)), S.cl, S.cd, r21.2) else some ((0 : Int32), S.cl, S.cd, r21.2) else none) else k28 ((x5 + (4 : Int32)), S.cl, S.cd, r21.2)) else some ((0 : Int32), S.cl, S.cd, r21.2) else none
theorem m_L_law_j255 {E : ZE} {S : Zs} (hW : zWF S) (w : Zw) (x0 : Nat) (hx0 : x0 = 0) (x1 : Nat) (hx1 : zObj S x1 7) (x2 : Nat) (hx2 : zObj S x2 8) (x3 : Nat) (hx3 : zArr S x3 3) (x4 : Nat) (hx4 : zArr S x4 4) (x5 : Int32) (y0 : Int32) (L : Nat) (xs : Nat → Int32) (hL9 : E.L = L) (hx9 : E.xs = xs) (kn qn : Nat) (k28 : (Int32 × (Nat → Nat → Int64) × (Nat → Nat → UInt64) × Zw) → Option (Int32 × (Nat → Nat → Int64) × (Nat → Nat → UInt64) × Zw)) (hk28 : ∀ a : Int32 × (Nat → Nat → Int64) × (Nat → Nat → UInt64) × Zw, zOk (E, i_L_law, 100) kn qn (zSc S a.2.1 a.2.2.1) a.2.2.2 28 [(0, .ref x0), (1, .ref x1), (2, .ref x2), (3, .ref x3), (4, .ref x4), (5, .int a.1)] [] (emS eI S) (k28 a)) : zOk (E, i_L_law, 100) kn qn S w 255 [(0, .ref x0), (1, .ref x1), (2, .ref x2), (3, .ref x3), (4, .ref x4), (5, .int x5)] [.int y0] (emS eI S) (f_L_law_j255 S L xs w x0 x1 x2 x3 x4 x5 y0 k28) := by
  unfold f_L_law_j255
  refine z_istore (lv' := [(6, .int y0), (0, .ref x0), (1, .ref x1), (2, .ref x2), (3, .ref x3), (4, .ref x4), (5, .int x5)]) dL_law_255 (Nat.le_of_ble_eq_true rfl) rfl (z_aload_n 3 dL_law_257 rfl (z_aload_n 1 dL_law_258 rfl (z_iload 6 dL_law_259 rfl (z_iconst dL_law_261 zi_1 (z_iadd dL_law_262 ?_)))))
  refine z_chk (fun c20 => ?_)
  refine z_sldE hL9 hx9 hx0 c20 dL_law_263 ?_
  refine z_bind (fun r21 hb22 => ?_)
  refine z_callV (kc' := kn) (ks' := qn) (v := (some (.int r21.1))) (S1 := S) (w1 := r21.2) (st := []) [.int (xs (zix (x5 + (1 : Int32))))] (m_X8_retrieve hW w x2 hx2 (xs (zix (x5 + (1 : Int32)))) r21 hb22) zc8 hx2 zy_X8_retrieve gw1292 gw1293 gw1291 (Nat.le_of_ble_eq_true rfl) (Nat.le_of_ble_eq_true rfl) (Nat.le_of_eq (Nat.zero_add _)) (Nat.le_of_eq (Nat.zero_add _)) (zal hW) rfl dL_law_264 (z_at 267 _ [.int r21.1] rfl rfl rfl ?_)
  refine z_istore (lv' := [(7, .int r21.1), (6, .int y0), (0, .ref x0), (1, .ref x1), (2, .ref x2), (3, .ref x3), (4, .ref x4), (5, .int x5)]) dL_law_267 (Nat.le_of_ble_eq_true rfl) rfl (z_aload_n 4 dL_law_269 rfl ?_)
  refine z_callV (kc' := kn) (ks' := qn) (v := (some (.int (f_X8_thrown S r21.2 x2)))) (S1 := S) (w1 := r21.2) (st := []) [] (m_X8_thrown hW r21.2 x2 hx2) zc8 hx2 zy_X8_thrown gw1098 gw1099 gw1097 (Nat.le_of_ble_eq_true rfl) (Nat.le_of_ble_eq_true rfl) (Nat.le_of_eq (Nat.zero_add _)) (Nat.le_of_eq (Nat.zero_add _)) (zal hW) rfl dL_law_270 (z_at 273 _ [.int (f_X8_thrown S r21.2 x2)] rfl rfl rfl ?_)
  refine z_iload 1 dL_law_273 rfl ?_
  refine z_icmp_eq 280 dL_law_275 rfl (fun q23 => ?_) (fun q23 => ?_)
  · refine z_iload 1 dL_law_280 rfl ?_
    refine z_if_ne 297 dL_law_282 rfl (fun q24 => ?_) (fun q24 => ?_)
    · refine z_goto 1970 dL_law_297 rfl (z_iinc (v := (x5 + (4 : Int32))) (lv' := [(5, .int (x5 + (4 : Int32))), (7, .int r21.1), (6, .int y0), (0, .ref x0), (1, .ref x1), (2, .ref x2), (3, .ref x3), (4, .ref x4)]) 7 dL_law_1970 rfl (zi_inc _ zi_4) (Nat.le_of_ble_eq_true rfl) rfl (z_goto 28 dL_law_1973 rfl ?_))
      refine z_sub (lv' := [(0, .ref x0), (1, .ref x1), (2, .ref x2), (3, .ref x3), (4, .ref x4), (5, .int (x5 + (4 : Int32)))]) [3, 4, 5, 6, 7, 0] rfl ?_
      refine z_pc (pc' := 28) rfl ?_
      exact hk28 ((x5 + (4 : Int32)), S.cl, S.cd, r21.2)
    · refine z_aload_n 5 dL_law_285 rfl (z_iconst dL_law_286 zi_0 ?_)
      refine z_chk (fun c25 => ?_)
      refine z_lald hx3 c25 dL_law_287 (z_iload 0 dL_law_288 rfl (z_i2l (v := (r21.1).toInt64) dL_law_290 rfl (z_lcmp dL_law_291 ?_)))
      refine z_if_eq 297 dL_law_292 rfl (fun q26 => ?_) (fun q26 => ?_)
      · refine z_goto 1970 dL_law_297 rfl (z_iinc (v := (x5 + (4 : Int32))) (lv' := [(5, .int (x5 + (4 : Int32))), (7, .int r21.1), (6, .int y0), (0, .ref x0), (1, .ref x1), (2, .ref x2), (3, .ref x3), (4, .ref x4)]) 7 dL_law_1970 rfl (zi_inc _ zi_4) (Nat.le_of_ble_eq_true rfl) rfl (z_goto 28 dL_law_1973 rfl ?_))
        refine z_sub (lv' := [(0, .ref x0), (1, .ref x1), (2, .ref x2), (3, .ref x3), (4, .ref x4), (5, .int (x5 + (4 : Int32)))]) [3, 4, 5, 6, 7, 0] rfl ?_
        refine z_pc (pc' := 28) rfl ?_
        exact hk28 ((x5 + (4 : Int32)), S.cl, S.cd, r21.2)
      · refine z_iconst dL_law_295 zi_0 ?_
        exact z_zret zemS rfl rfl dL_law_296
  · refine z_iconst dL_law_278 zi_0 ?_
    exact z_zret zemS rfl rfl dL_law_279

def f_L_law_j317 (S : Zs) (L : Nat) (xs : Nat → Int32) (w : Zw) (x0 : Nat) (x1 : Nat) (x2 : Nat) (x3 : Nat) (x4 : Nat) (x5 : Int32) (y0 : Int32) (k28 : (Int32 × (Nat → Nat → Int64) × (Nat → Nat → UInt64) × Zw) → Option (Int32 × (Nat → Nat → Int64) × (Nat → Nat → UInt64) × Zw)) : Option (Int32 × (Nat → Nat → Int64) × (Nat → Nat → UInt64) × Zw) :=
  if zin (x5 + (1 : Int32)) L = true then if zin (x5 + (2 : Int32)) L = true then (f_X8_book S w x2 (xs (zix (x5 + (1 : Int32)))) (xs (zix (x5 + (2 : Int32))))).bind fun r34 => if (f_X8_thrown S r34.2 x2) = y0 then (if y0 = 0 then (if zin (0 : Int32) (zlen S x3) = true then if (lg_cmp (S.cl x3 (zix (0 : Int32))) ((r34.1).toInt64)) = 0 then k28 ((x5 + (4 : Int32)), S.cl, S.cd, r34.2) else some ((0 : Int32), S.cl, S.cd, r34.2) else none) else k28 ((x5 + (4 : Int32)), S.cl, S.cd, r34.2)) else some ((0 : Int32), S.cl, S.cd, r34.2) else none else none
theorem m_L_law_j317 {E : ZE} {S : Zs} (hW : zWF S) (w : Zw) (x0 : Nat) (hx0 : x0 = 0) (x1 : Nat) (hx1 : zObj S x1 7) (x2 : Nat) (hx2 : zObj S x2 8) (x3 : Nat) (hx3 : zArr S x3 3) (x4 : Nat) (hx4 : zArr S x4 4) (x5 : Int32) (y0 : Int32) (L : Nat) (xs : Nat → Int32) (hL9 : E.L = L) (hx9 : E.xs = xs) (kn qn : Nat) (k28 : (Int32 × (Nat → Nat → Int64) × (Nat → Nat → UInt64) × Zw) → Option (Int32 × (Nat → Nat → Int64) × (Nat → Nat → UInt64) × Zw)) (hk28 : ∀ a : Int32 × (Nat → Nat → Int64) × (Nat → Nat → UInt64) × Zw, zOk (E, i_L_law, 100) kn qn (zSc S a.2.1 a.2.2.1) a.2.2.2 28 [(0, .ref x0), (1, .ref x1), (2, .ref x2), (3, .ref x3), (4, .ref x4), (5, .int a.1)] [] (emS eI S) (k28 a)) : zOk (E, i_L_law, 100) kn qn S w 317 [(0, .ref x0), (1, .ref x1), (2, .ref x2), (3, .ref x3), (4, .ref x4), (5, .int x5)] [.int y0] (emS eI S) (f_L_law_j317 S L xs w x0 x1 x2 x3 x4 x5 y0 k28) := by
  unfold f_L_law_j317
  refine z_istore (lv' := [(6, .int y0), (0, .ref x0), (1, .ref x1), (2, .ref x2), (3, .ref x3), (4, .ref x4), (5, .int x5)]) dL_law_317 (Nat.le_of_ble_eq_true rfl) rfl (z_aload_n 3 dL_law_319 rfl (z_aload_n 1 dL_law_320 rfl (z_iload 6 dL_law_321 rfl (z_iconst dL_law_323 zi_1 (z_iadd dL_law_324 ?_)))))
  refine z_chk (fun c32 => ?_)
  refine z_sldE hL9 hx9 hx0 c32 dL_law_325 (z_aload_n 1 dL_law_326 rfl (z_iload 6 dL_law_327 rfl (z_iconst dL_law_329 zi_2 (z_iadd dL_law_330 ?_))))
  refine z_chk (fun c33 => ?_)
  refine z_sldE hL9 hx9 hx0 c33 dL_law_331 ?_
  refine z_bind (fun r34 hb35 => ?_)
  refine z_callV (kc' := kn) (ks' := qn) (v := (some (.int r34.1))) (S1 := S) (w1 := r34.2) (st := []) [.int (xs (zix (x5 + (1 : Int32)))), .int (xs (zix (x5 + (2 : Int32))))] (m_X8_book hW w x2 hx2 (xs (zix (x5 + (1 : Int32)))) (xs (zix (x5 + (2 : Int32)))) r34 hb35) zc8 hx2 zy_X8_book gw1328 gw1329 gw1327 (Nat.le_of_ble_eq_true rfl) (Nat.le_of_ble_eq_true rfl) (Nat.le_of_eq (Nat.zero_add _)) (Nat.le_of_eq (Nat.zero_add _)) (zal hW) rfl dL_law_332 (z_at 335 _ [.int r34.1] rfl rfl rfl ?_)
  refine z_istore (lv' := [(7, .int r34.1), (6, .int y0), (0, .ref x0), (1, .ref x1), (2, .ref x2), (3, .ref x3), (4, .ref x4), (5, .int x5)]) dL_law_335 (Nat.le_of_ble_eq_true rfl) rfl (z_aload_n 4 dL_law_337 rfl ?_)
  refine z_callV (kc' := kn) (ks' := qn) (v := (some (.int (f_X8_thrown S r34.2 x2)))) (S1 := S) (w1 := r34.2) (st := []) [] (m_X8_thrown hW r34.2 x2 hx2) zc8 hx2 zy_X8_thrown gw1098 gw1099 gw1097 (Nat.le_of_ble_eq_true rfl) (Nat.le_of_ble_eq_true rfl) (Nat.le_of_eq (Nat.zero_add _)) (Nat.le_of_eq (Nat.zero_add _)) (zal hW) rfl dL_law_338 (z_at 341 _ [.int (f_X8_thrown S r34.2 x2)] rfl rfl rfl ?_)
  refine z_iload 1 dL_law_341 rfl ?_
  refine z_icmp_eq 348 dL_law_343 rfl (fun q36 => ?_) (fun q36 => ?_)
  · refine z_iload 1 dL_law_348 rfl ?_
    refine z_if_ne 365 dL_law_350 rfl (fun q37 => ?_) (fun q37 => ?_)
    · refine z_goto 1970 dL_law_365 rfl (z_iinc (v := (x5 + (4 : Int32))) (lv' := [(5, .int (x5 + (4 : Int32))), (7, .int r34.1), (6, .int y0), (0, .ref x0), (1, .ref x1), (2, .ref x2), (3, .ref x3), (4, .ref x4)]) 7 dL_law_1970 rfl (zi_inc _ zi_4) (Nat.le_of_ble_eq_true rfl) rfl (z_goto 28 dL_law_1973 rfl ?_))
      refine z_sub (lv' := [(0, .ref x0), (1, .ref x1), (2, .ref x2), (3, .ref x3), (4, .ref x4), (5, .int (x5 + (4 : Int32)))]) [3, 4, 5, 6, 7, 0] rfl ?_
      refine z_pc (pc' := 28) rfl ?_
      exact hk28 ((x5 + (4 : Int32)), S.cl, S.cd, r34.2)
    · refine z_aload_n 5 dL_law_353 rfl (z_iconst dL_law_354 zi_0 ?_)
      refine z_chk (fun c38 => ?_)
      refine z_lald hx3 c38 dL_law_355 (z_iload 0 dL_law_356 rfl (z_i2l (v := (r34.1).toInt64) dL_law_358 rfl (z_lcmp dL_law_359 ?_)))
      refine z_if_eq 365 dL_law_360 rfl (fun q39 => ?_) (fun q39 => ?_)
      · refine z_goto 1970 dL_law_365 rfl (z_iinc (v := (x5 + (4 : Int32))) (lv' := [(5, .int (x5 + (4 : Int32))), (7, .int r34.1), (6, .int y0), (0, .ref x0), (1, .ref x1), (2, .ref x2), (3, .ref x3), (4, .ref x4)]) 7 dL_law_1970 rfl (zi_inc _ zi_4) (Nat.le_of_ble_eq_true rfl) rfl (z_goto 28 dL_law_1973 rfl ?_))
        refine z_sub (lv' := [(0, .ref x0), (1, .ref x1), (2, .ref x2), (3, .ref x3), (4, .ref x4), (5, .int (x5 + (4 : Int32)))]) [3, 4, 5, 6, 7, 0] rfl ?_
        refine z_pc (pc' := 28) rfl ?_
        exact hk28 ((x5 + (4 : Int32)), S.cl, S.cd, r34.2)
      · refine z_iconst dL_law_363 zi_0 ?_
        exact z_zret zemS rfl rfl dL_law_364
  · refine z_iconst dL_law_346 zi_0 ?_
    exact z_zret zemS rfl rfl dL_law_347

def f_L_law_j385 (S : Zs) (L : Nat) (xs : Nat → Int32) (w : Zw) (x0 : Nat) (x1 : Nat) (x2 : Nat) (x3 : Nat) (x4 : Nat) (x5 : Int32) (y0 : Int32) (k28 : (Int32 × (Nat → Nat → Int64) × (Nat → Nat → UInt64) × Zw) → Option (Int32 × (Nat → Nat → Int64) × (Nat → Nat → UInt64) × Zw)) : Option (Int32 × (Nat → Nat → Int64) × (Nat → Nat → UInt64) × Zw) :=
  if zin (x5 + (1 : Int32)) L = true then if zin (x5 + (2 : Int32)) L = true then (f_X8_car S w x2 (xs (zix (x5 + (1 : Int32)))) (xs (zix (x5 + (2 : Int32))))).bind fun r47 => if (f_X8_thrown S r47.2 x2) = y0 then (if y0 = 0 then (if zin (0 : Int32) (zlen S x3) = true then if (lg_cmp (S.cl x3 (zix (0 : Int32))) ((r47.1).toInt64)) = 0 then k28 ((x5 + (4 : Int32)), S.cl, S.cd, r47.2) else some ((0 : Int32), S.cl, S.cd, r47.2) else none) else k28 ((x5 + (4 : Int32)), S.cl, S.cd, r47.2)) else some ((0 : Int32), S.cl, S.cd, r47.2) else none else none
theorem m_L_law_j385 {E : ZE} {S : Zs} (hW : zWF S) (w : Zw) (x0 : Nat) (hx0 : x0 = 0) (x1 : Nat) (hx1 : zObj S x1 7) (x2 : Nat) (hx2 : zObj S x2 8) (x3 : Nat) (hx3 : zArr S x3 3) (x4 : Nat) (hx4 : zArr S x4 4) (x5 : Int32) (y0 : Int32) (L : Nat) (xs : Nat → Int32) (hL9 : E.L = L) (hx9 : E.xs = xs) (kn qn : Nat) (k28 : (Int32 × (Nat → Nat → Int64) × (Nat → Nat → UInt64) × Zw) → Option (Int32 × (Nat → Nat → Int64) × (Nat → Nat → UInt64) × Zw)) (hk28 : ∀ a : Int32 × (Nat → Nat → Int64) × (Nat → Nat → UInt64) × Zw, zOk (E, i_L_law, 100) kn qn (zSc S a.2.1 a.2.2.1) a.2.2.2 28 [(0, .ref x0), (1, .ref x1), (2, .ref x2), (3, .ref x3), (4, .ref x4), (5, .int a.1)] [] (emS eI S) (k28 a)) : zOk (E, i_L_law, 100) kn qn S w 385 [(0, .ref x0), (1, .ref x1), (2, .ref x2), (3, .ref x3), (4, .ref x4), (5, .int x5)] [.int y0] (emS eI S) (f_L_law_j385 S L xs w x0 x1 x2 x3 x4 x5 y0 k28) := by
  unfold f_L_law_j385
  refine z_istore (lv' := [(6, .int y0), (0, .ref x0), (1, .ref x1), (2, .ref x2), (3, .ref x3), (4, .ref x4), (5, .int x5)]) dL_law_385 (Nat.le_of_ble_eq_true rfl) rfl (z_aload_n 3 dL_law_387 rfl (z_aload_n 1 dL_law_388 rfl (z_iload 6 dL_law_389 rfl (z_iconst dL_law_391 zi_1 (z_iadd dL_law_392 ?_)))))
  refine z_chk (fun c45 => ?_)
  refine z_sldE hL9 hx9 hx0 c45 dL_law_393 (z_aload_n 1 dL_law_394 rfl (z_iload 6 dL_law_395 rfl (z_iconst dL_law_397 zi_2 (z_iadd dL_law_398 ?_))))
  refine z_chk (fun c46 => ?_)
  refine z_sldE hL9 hx9 hx0 c46 dL_law_399 ?_
  refine z_bind (fun r47 hb48 => ?_)
  refine z_callV (kc' := kn) (ks' := qn) (v := (some (.int r47.1))) (S1 := S) (w1 := r47.2) (st := []) [.int (xs (zix (x5 + (1 : Int32)))), .int (xs (zix (x5 + (2 : Int32))))] (m_X8_car hW w x2 hx2 (xs (zix (x5 + (1 : Int32)))) (xs (zix (x5 + (2 : Int32)))) r47 hb48) zc8 hx2 zy_X8_car gw1332 gw1333 gw1331 (Nat.le_of_ble_eq_true rfl) (Nat.le_of_ble_eq_true rfl) (Nat.le_of_eq (Nat.zero_add _)) (Nat.le_of_eq (Nat.zero_add _)) (zal hW) rfl dL_law_400 (z_at 403 _ [.int r47.1] rfl rfl rfl ?_)
  refine z_istore (lv' := [(7, .int r47.1), (6, .int y0), (0, .ref x0), (1, .ref x1), (2, .ref x2), (3, .ref x3), (4, .ref x4), (5, .int x5)]) dL_law_403 (Nat.le_of_ble_eq_true rfl) rfl (z_aload_n 4 dL_law_405 rfl ?_)
  refine z_callV (kc' := kn) (ks' := qn) (v := (some (.int (f_X8_thrown S r47.2 x2)))) (S1 := S) (w1 := r47.2) (st := []) [] (m_X8_thrown hW r47.2 x2 hx2) zc8 hx2 zy_X8_thrown gw1098 gw1099 gw1097 (Nat.le_of_ble_eq_true rfl) (Nat.le_of_ble_eq_true rfl) (Nat.le_of_eq (Nat.zero_add _)) (Nat.le_of_eq (Nat.zero_add _)) (zal hW) rfl dL_law_406 (z_at 409 _ [.int (f_X8_thrown S r47.2 x2)] rfl rfl rfl ?_)
  refine z_iload 1 dL_law_409 rfl ?_
  refine z_icmp_eq 416 dL_law_411 rfl (fun q49 => ?_) (fun q49 => ?_)
  · refine z_iload 1 dL_law_416 rfl ?_
    refine z_if_ne 433 dL_law_418 rfl (fun q50 => ?_) (fun q50 => ?_)
    · refine z_goto 1970 dL_law_433 rfl (z_iinc (v := (x5 + (4 : Int32))) (lv' := [(5, .int (x5 + (4 : Int32))), (7, .int r47.1), (6, .int y0), (0, .ref x0), (1, .ref x1), (2, .ref x2), (3, .ref x3), (4, .ref x4)]) 7 dL_law_1970 rfl (zi_inc _ zi_4) (Nat.le_of_ble_eq_true rfl) rfl (z_goto 28 dL_law_1973 rfl ?_))
      refine z_sub (lv' := [(0, .ref x0), (1, .ref x1), (2, .ref x2), (3, .ref x3), (4, .ref x4), (5, .int (x5 + (4 : Int32)))]) [3, 4, 5, 6, 7, 0] rfl ?_
      refine z_pc (pc' := 28) rfl ?_
      exact hk28 ((x5 + (4 : Int32)), S.cl, S.cd, r47.2)
    · refine z_aload_n 5 dL_law_421 rfl (z_iconst dL_law_422 zi_0 ?_)
      refine z_chk (fun c51 => ?_)
      refine z_lald hx3 c51 dL_law_423 (z_iload 0 dL_law_424 rfl (z_i2l (v := (r47.1).toInt64) dL_law_426 rfl (z_lcmp dL_law_427 ?_)))
      refine z_if_eq 433 dL_law_428 rfl (fun q52 => ?_) (fun q52 => ?_)
      · refine z_goto 1970 dL_law_433 rfl (z_iinc (v := (x5 + (4 : Int32))) (lv' := [(5, .int (x5 + (4 : Int32))), (7, .int r47.1), (6, .int y0), (0, .ref x0), (1, .ref x1), (2, .ref x2), (3, .ref x3), (4, .ref x4)]) 7 dL_law_1970 rfl (zi_inc _ zi_4) (Nat.le_of_ble_eq_true rfl) rfl (z_goto 28 dL_law_1973 rfl ?_))
        refine z_sub (lv' := [(0, .ref x0), (1, .ref x1), (2, .ref x2), (3, .ref x3), (4, .ref x4), (5, .int (x5 + (4 : Int32)))]) [3, 4, 5, 6, 7, 0] rfl ?_
        refine z_pc (pc' := 28) rfl ?_
        exact hk28 ((x5 + (4 : Int32)), S.cl, S.cd, r47.2)
      · refine z_iconst dL_law_431 zi_0 ?_
        exact z_zret zemS rfl rfl dL_law_432
  · refine z_iconst dL_law_414 zi_0 ?_
    exact z_zret zemS rfl rfl dL_law_415

def f_L_law_j447 (S : Zs) (L : Nat) (xs : Nat → Int32) (w : Zw) (x0 : Nat) (x1 : Nat) (x2 : Nat) (x3 : Nat) (x4 : Nat) (x5 : Int32) (y0 : Int32) (k28 : (Int32 × (Nat → Nat → Int64) × (Nat → Nat → UInt64) × Zw) → Option (Int32 × (Nat → Nat → Int64) × (Nat → Nat → UInt64) × Zw)) : Option (Int32 × (Nat → Nat → Int64) × (Nat → Nat → UInt64) × Zw) :=
  if zin (x5 + (1 : Int32)) L = true then (f_X8_due S w x2 (xs (zix (x5 + (1 : Int32))))).bind fun r58 => if (f_X8_thrown S r58.2 x2) = y0 then (if y0 = 0 then (if zin (0 : Int32) (zlen S x3) = true then if (lg_cmp (S.cl x3 (zix (0 : Int32))) r58.1) = 0 then k28 ((x5 + (4 : Int32)), S.cl, S.cd, r58.2) else some ((0 : Int32), S.cl, S.cd, r58.2) else none) else k28 ((x5 + (4 : Int32)), S.cl, S.cd, r58.2)) else some ((0 : Int32), S.cl, S.cd, r58.2) else none
theorem m_L_law_j447 {E : ZE} {S : Zs} (hW : zWF S) (w : Zw) (x0 : Nat) (hx0 : x0 = 0) (x1 : Nat) (hx1 : zObj S x1 7) (x2 : Nat) (hx2 : zObj S x2 8) (x3 : Nat) (hx3 : zArr S x3 3) (x4 : Nat) (hx4 : zArr S x4 4) (x5 : Int32) (y0 : Int32) (L : Nat) (xs : Nat → Int32) (hL9 : E.L = L) (hx9 : E.xs = xs) (kn qn : Nat) (k28 : (Int32 × (Nat → Nat → Int64) × (Nat → Nat → UInt64) × Zw) → Option (Int32 × (Nat → Nat → Int64) × (Nat → Nat → UInt64) × Zw)) (hk28 : ∀ a : Int32 × (Nat → Nat → Int64) × (Nat → Nat → UInt64) × Zw, zOk (E, i_L_law, 100) kn qn (zSc S a.2.1 a.2.2.1) a.2.2.2 28 [(0, .ref x0), (1, .ref x1), (2, .ref x2), (3, .ref x3), (4, .ref x4), (5, .int a.1)] [] (emS eI S) (k28 a)) : zOk (E, i_L_law, 100) kn qn S w 447 [(0, .ref x0), (1, .ref x1), (2, .ref x2), (3, .ref x3), (4, .ref x4), (5, .int x5)] [.int y0] (emS eI S) (f_L_law_j447 S L xs w x0 x1 x2 x3 x4 x5 y0 k28) := by
  unfold f_L_law_j447
  refine z_istore (lv' := [(6, .int y0), (0, .ref x0), (1, .ref x1), (2, .ref x2), (3, .ref x3), (4, .ref x4), (5, .int x5)]) dL_law_447 (Nat.le_of_ble_eq_true rfl) rfl (z_aload_n 3 dL_law_449 rfl (z_aload_n 1 dL_law_450 rfl (z_iload 6 dL_law_451 rfl (z_iconst dL_law_453 zi_1 (z_iadd dL_law_454 ?_)))))
  refine z_chk (fun c57 => ?_)
  refine z_sldE hL9 hx9 hx0 c57 dL_law_455 ?_
  refine z_bind (fun r58 hb59 => ?_)
  refine z_callV (kc' := kn) (ks' := qn) (v := (some (.long r58.1))) (S1 := S) (w1 := r58.2) (st := []) [.int (xs (zix (x5 + (1 : Int32))))] (m_X8_due hW w x2 hx2 (xs (zix (x5 + (1 : Int32)))) r58 hb59) zc8 hx2 zy_X8_due gw1340 gw1341 gw1339 (Nat.le_of_ble_eq_true rfl) (Nat.le_of_ble_eq_true rfl) (Nat.le_of_eq (Nat.zero_add _)) (Nat.le_of_eq (Nat.zero_add _)) (zal hW) rfl dL_law_456 (z_at 459 _ [.long r58.1] rfl rfl rfl ?_)
  refine z_lstore (lv' := [(7, .long r58.1), (6, .int y0), (0, .ref x0), (1, .ref x1), (2, .ref x2), (3, .ref x3), (4, .ref x4), (5, .int x5)]) dL_law_459 (Nat.le_of_ble_eq_true rfl) rfl (z_aload_n 4 dL_law_461 rfl ?_)
  refine z_callV (kc' := kn) (ks' := qn) (v := (some (.int (f_X8_thrown S r58.2 x2)))) (S1 := S) (w1 := r58.2) (st := []) [] (m_X8_thrown hW r58.2 x2 hx2) zc8 hx2 zy_X8_thrown gw1098 gw1099 gw1097 (Nat.le_of_ble_eq_true rfl) (Nat.le_of_ble_eq_true rfl) (Nat.le_of_eq (Nat.zero_add _)) (Nat.le_of_eq (Nat.zero_add _)) (zal hW) rfl dL_law_462 (z_at 465 _ [.int (f_X8_thrown S r58.2 x2)] rfl rfl rfl ?_)
  refine z_iload 1 dL_law_465 rfl ?_
  refine z_icmp_eq 472 dL_law_467 rfl (fun q60 => ?_) (fun q60 => ?_)
  · refine z_iload 1 dL_law_472 rfl ?_
    refine z_if_ne 488 dL_law_474 rfl (fun q61 => ?_) (fun q61 => ?_)
    · refine z_goto 1970 dL_law_488 rfl (z_iinc (v := (x5 + (4 : Int32))) (lv' := [(5, .int (x5 + (4 : Int32))), (7, .long r58.1), (6, .int y0), (0, .ref x0), (1, .ref x1), (2, .ref x2), (3, .ref x3), (4, .ref x4)]) 7 dL_law_1970 rfl (zi_inc _ zi_4) (Nat.le_of_ble_eq_true rfl) rfl (z_goto 28 dL_law_1973 rfl ?_))
      refine z_sub (lv' := [(0, .ref x0), (1, .ref x1), (2, .ref x2), (3, .ref x3), (4, .ref x4), (5, .int (x5 + (4 : Int32)))]) [3, 4, 5, 6, 7, 0] rfl ?_
      refine z_pc (pc' := 28) rfl ?_
      exact hk28 ((x5 + (4 : Int32)), S.cl, S.cd, r58.2)
    · refine z_aload_n 5 dL_law_477 rfl (z_iconst dL_law_478 zi_0 ?_)
      refine z_chk (fun c62 => ?_)
      refine z_lald hx3 c62 dL_law_479 (z_lload 0 dL_law_480 rfl (z_lcmp dL_law_482 ?_))
      refine z_if_eq 488 dL_law_483 rfl (fun q63 => ?_) (fun q63 => ?_)
      · refine z_goto 1970 dL_law_488 rfl (z_iinc (v := (x5 + (4 : Int32))) (lv' := [(5, .int (x5 + (4 : Int32))), (7, .long r58.1), (6, .int y0), (0, .ref x0), (1, .ref x1), (2, .ref x2), (3, .ref x3), (4, .ref x4)]) 7 dL_law_1970 rfl (zi_inc _ zi_4) (Nat.le_of_ble_eq_true rfl) rfl (z_goto 28 dL_law_1973 rfl ?_))
        refine z_sub (lv' := [(0, .ref x0), (1, .ref x1), (2, .ref x2), (3, .ref x3), (4, .ref x4), (5, .int (x5 + (4 : Int32)))]) [3, 4, 5, 6, 7, 0] rfl ?_
        refine z_pc (pc' := 28) rfl ?_
        exact hk28 ((x5 + (4 : Int32)), S.cl, S.cd, r58.2)
      · refine z_iconst dL_law_486 zi_0 ?_
        exact z_zret zemS rfl rfl dL_law_487
  · refine z_iconst dL_law_470 zi_0 ?_
    exact z_zret zemS rfl rfl dL_law_471

def f_L_law_j573 (S : Zs) (L : Nat) (xs : Nat → Int32) (w : Zw) (x0 : Nat) (x1 : Nat) (x2 : Nat) (x3 : Nat) (x4 : Nat) (x5 : Int32) (y0 : Int64) (y1 : Int64) (k28 : (Int32 × (Nat → Nat → Int64) × (Nat → Nat → UInt64) × Zw) → Option (Int32 × (Nat → Nat → Int64) × (Nat → Nat → UInt64) × Zw)) : Option (Int32 × (Nat → Nat → Int64) × (Nat → Nat → UInt64) × Zw) :=
  if (lg_cmp y1 y0) = 0 then k28 ((x5 + (4 : Int32)), S.cl, S.cd, w) else some ((0 : Int32), S.cl, S.cd, w)
theorem m_L_law_j573 {E : ZE} {S : Zs} (hW : zWF S) (w : Zw) (x0 : Nat) (hx0 : x0 = 0) (x1 : Nat) (hx1 : zObj S x1 7) (x2 : Nat) (hx2 : zObj S x2 8) (x3 : Nat) (hx3 : zArr S x3 3) (x4 : Nat) (hx4 : zArr S x4 4) (x5 : Int32) (y0 : Int64) (y1 : Int64) (L : Nat) (xs : Nat → Int32) (hL9 : E.L = L) (hx9 : E.xs = xs) (kn qn : Nat) (k28 : (Int32 × (Nat → Nat → Int64) × (Nat → Nat → UInt64) × Zw) → Option (Int32 × (Nat → Nat → Int64) × (Nat → Nat → UInt64) × Zw)) (hk28 : ∀ a : Int32 × (Nat → Nat → Int64) × (Nat → Nat → UInt64) × Zw, zOk (E, i_L_law, 100) kn qn (zSc S a.2.1 a.2.2.1) a.2.2.2 28 [(0, .ref x0), (1, .ref x1), (2, .ref x2), (3, .ref x3), (4, .ref x4), (5, .int a.1)] [] (emS eI S) (k28 a)) : zOk (E, i_L_law, 100) kn qn S w 573 [(0, .ref x0), (1, .ref x1), (2, .ref x2), (3, .ref x3), (4, .ref x4), (5, .int x5)] [.long y0, .long y1] (emS eI S) (f_L_law_j573 S L xs w x0 x1 x2 x3 x4 x5 y0 y1 k28) := by
  unfold f_L_law_j573
  refine z_lcmp dL_law_573 ?_
  refine z_if_eq 579 dL_law_574 rfl (fun q79 => ?_) (fun q79 => ?_)
  · refine z_goto 1970 dL_law_579 rfl (z_iinc (v := (x5 + (4 : Int32))) (lv' := [(5, .int (x5 + (4 : Int32))), (0, .ref x0), (1, .ref x1), (2, .ref x2), (3, .ref x3), (4, .ref x4)]) 5 dL_law_1970 rfl (zi_inc _ zi_4) (Nat.le_of_ble_eq_true rfl) rfl (z_goto 28 dL_law_1973 rfl ?_))
    refine z_sub (lv' := [(0, .ref x0), (1, .ref x1), (2, .ref x2), (3, .ref x3), (4, .ref x4), (5, .int (x5 + (4 : Int32)))]) [1, 2, 3, 4, 5, 0] rfl ?_
    refine z_pc (pc' := 28) rfl ?_
    exact hk28 ((x5 + (4 : Int32)), S.cl, S.cd, w)
  · refine z_iconst dL_law_577 zi_0 ?_
    exact z_zret zemS rfl rfl dL_law_578

def f_L_law_j539 (S : Zs) (L : Nat) (xs : Nat → Int32) (w : Zw) (x0 : Nat) (x1 : Nat) (x2 : Nat) (x3 : Nat) (x4 : Nat) (x5 : Int32) (x6 : Int32) (y0 : Int32) (y1 : Int32) (y2 : Nat) (k28 : (Int32 × (Nat → Nat → Int64) × (Nat → Nat → UInt64) × Zw) → Option (Int32 × (Nat → Nat → Int64) × (Nat → Nat → UInt64) × Zw)) : Option (Int32 × (Nat → Nat → Int64) × (Nat → Nat → UInt64) × Zw) :=
  (f_X8_setClosed S w y2 y1 y0).bind fun r73 => if (f_X8_thrown S r73.2 x2) = x6 then (if x6 = 0 then (if zin (0 : Int32) (zlen S x3) = true then if r73.1 = 0 then f_L_law_j573 S L xs r73.2 x0 x1 x2 x3 x4 x5 (0 : Int64) ((S.cl x3 (zix (0 : Int32)))) k28  else f_L_law_j573 S L xs r73.2 x0 x1 x2 x3 x4 x5 (1 : Int64) ((S.cl x3 (zix (0 : Int32)))) k28  else none) else k28 ((x5 + (4 : Int32)), S.cl, S.cd, r73.2)) else some ((0 : Int32), S.cl, S.cd, r73.2)
theorem m_L_law_j539 {E : ZE} {S : Zs} (hW : zWF S) (w : Zw) (x0 : Nat) (hx0 : x0 = 0) (x1 : Nat) (hx1 : zObj S x1 7) (x2 : Nat) (hx2 : zObj S x2 8) (x3 : Nat) (hx3 : zArr S x3 3) (x4 : Nat) (hx4 : zArr S x4 4) (x5 : Int32) (x6 : Int32) (y0 : Int32) (y1 : Int32) (y2 : Nat) (hy2 : zObj S y2 8) (L : Nat) (xs : Nat → Int32) (hL9 : E.L = L) (hx9 : E.xs = xs) (kn qn : Nat) (k28 : (Int32 × (Nat → Nat → Int64) × (Nat → Nat → UInt64) × Zw) → Option (Int32 × (Nat → Nat → Int64) × (Nat → Nat → UInt64) × Zw)) (hk28 : ∀ a : Int32 × (Nat → Nat → Int64) × (Nat → Nat → UInt64) × Zw, zOk (E, i_L_law, 100) kn qn (zSc S a.2.1 a.2.2.1) a.2.2.2 28 [(0, .ref x0), (1, .ref x1), (2, .ref x2), (3, .ref x3), (4, .ref x4), (5, .int a.1)] [] (emS eI S) (k28 a)) : zOk (E, i_L_law, 100) kn qn S w 539 [(0, .ref x0), (1, .ref x1), (2, .ref x2), (3, .ref x3), (4, .ref x4), (5, .int x5), (6, .int x6)] [.int y0, .int y1, .ref y2] (emS eI S) (f_L_law_j539 S L xs w x0 x1 x2 x3 x4 x5 x6 y0 y1 y2 k28) := by
  unfold f_L_law_j539
  refine z_bind (fun r73 hb74 => ?_)
  refine z_callV (kc' := kn) (ks' := qn) (v := (some (.int r73.1))) (S1 := S) (w1 := r73.2) (st := []) [.int y1, .int y0] (m_X8_setClosed hW w y2 hy2 y1 y0 r73 hb74) zc8 hy2 zy_X8_setClosed gw1344 gw1345 gw1343 (Nat.le_of_ble_eq_true rfl) (Nat.le_of_ble_eq_true rfl) (Nat.le_of_eq (Nat.zero_add _)) (Nat.le_of_eq (Nat.zero_add _)) (zal hW) rfl dL_law_539 (z_at 542 _ [.int r73.1] rfl rfl rfl ?_)
  refine z_istore (lv' := [(7, .int r73.1), (0, .ref x0), (1, .ref x1), (2, .ref x2), (3, .ref x3), (4, .ref x4), (5, .int x5), (6, .int x6)]) dL_law_542 (Nat.le_of_ble_eq_true rfl) rfl (z_aload_n 3 dL_law_544 rfl ?_)
  refine z_callV (kc' := kn) (ks' := qn) (v := (some (.int (f_X8_thrown S r73.2 x2)))) (S1 := S) (w1 := r73.2) (st := []) [] (m_X8_thrown hW r73.2 x2 hx2) zc8 hx2 zy_X8_thrown gw1098 gw1099 gw1097 (Nat.le_of_ble_eq_true rfl) (Nat.le_of_ble_eq_true rfl) (Nat.le_of_eq (Nat.zero_add _)) (Nat.le_of_eq (Nat.zero_add _)) (zal hW) rfl dL_law_545 (z_at 548 _ [.int (f_X8_thrown S r73.2 x2)] rfl rfl rfl ?_)
  refine z_iload 7 dL_law_548 rfl ?_
  refine z_icmp_eq 555 dL_law_550 rfl (fun q75 => ?_) (fun q75 => ?_)
  · refine z_iload 7 dL_law_555 rfl ?_
    refine z_if_ne 579 dL_law_557 rfl (fun q76 => ?_) (fun q76 => ?_)
    · refine z_goto 1970 dL_law_579 rfl (z_iinc (v := (x5 + (4 : Int32))) (lv' := [(5, .int (x5 + (4 : Int32))), (7, .int r73.1), (0, .ref x0), (1, .ref x1), (2, .ref x2), (3, .ref x3), (4, .ref x4), (6, .int x6)]) 6 dL_law_1970 rfl (zi_inc _ zi_4) (Nat.le_of_ble_eq_true rfl) rfl (z_goto 28 dL_law_1973 rfl ?_))
      refine z_sub (lv' := [(0, .ref x0), (1, .ref x1), (2, .ref x2), (3, .ref x3), (4, .ref x4), (5, .int (x5 + (4 : Int32)))]) [2, 3, 4, 5, 6, 0] rfl ?_
      refine z_pc (pc' := 28) rfl ?_
      exact hk28 ((x5 + (4 : Int32)), S.cl, S.cd, r73.2)
    · refine z_aload_n 4 dL_law_560 rfl (z_iconst dL_law_561 zi_0 ?_)
      refine z_chk (fun c77 => ?_)
      refine z_lald hx3 c77 dL_law_562 (z_iload 0 dL_law_563 rfl ?_)
      refine z_if_eq 572 dL_law_565 rfl (fun q78 => ?_) (fun q78 => ?_)
      · refine z_lconst dL_law_572 zl_0 ?_
        refine z_sub (lv' := [(0, .ref x0), (1, .ref x1), (2, .ref x2), (3, .ref x3), (4, .ref x4), (5, .int x5)]) [1, 2, 3, 4, 5, 6] rfl ?_
        refine z_pc (pc' := 573) rfl ?_
        exact m_L_law_j573 hW r73.2 x0 hx0 x1 hx1 x2 hx2 x3 hx3 x4 hx4 x5 (0 : Int64) ((S.cl x3 (zix (0 : Int32)))) L xs hL9 hx9 kn qn k28 hk28 
      · refine z_lconst dL_law_568 zl_1 (z_goto 573 dL_law_569 rfl ?_)
        refine z_sub (lv' := [(0, .ref x0), (1, .ref x1), (2, .ref x2), (3, .ref x3), (4, .ref x4), (5, .int x5)]) [1, 2, 3, 4, 5, 6] rfl ?_
        refine z_pc (pc' := 573) rfl ?_
        exact m_L_law_j573 hW r73.2 x0 hx0 x1 hx1 x2 hx2 x3 hx3 x4 hx4 x5 (1 : Int64) ((S.cl x3 (zix (0 : Int32)))) L xs hL9 hx9 kn qn k28 hk28 
  · refine z_iconst dL_law_553 zi_0 ?_
    exact z_zret zemS rfl rfl dL_law_554

def f_L_law_j516 (S : Zs) (L : Nat) (xs : Nat → Int32) (w : Zw) (x0 : Nat) (x1 : Nat) (x2 : Nat) (x3 : Nat) (x4 : Nat) (x5 : Int32) (y0 : Int32) (k28 : (Int32 × (Nat → Nat → Int64) × (Nat → Nat → UInt64) × Zw) → Option (Int32 × (Nat → Nat → Int64) × (Nat → Nat → UInt64) × Zw)) : Option (Int32 × (Nat → Nat → Int64) × (Nat → Nat → UInt64) × Zw) :=
  if zin (x5 + (1 : Int32)) L = true then if zin (x5 + (2 : Int32)) L = true then if (xs (zix (x5 + (2 : Int32)))) = 0 then f_L_law_j539 S L xs w x0 x1 x2 x3 x4 x5 y0 (0 : Int32) ((xs (zix (x5 + (1 : Int32))))) x2 k28  else f_L_law_j539 S L xs w x0 x1 x2 x3 x4 x5 y0 (1 : Int32) ((xs (zix (x5 + (1 : Int32))))) x2 k28  else none else none
theorem m_L_law_j516 {E : ZE} {S : Zs} (hW : zWF S) (w : Zw) (x0 : Nat) (hx0 : x0 = 0) (x1 : Nat) (hx1 : zObj S x1 7) (x2 : Nat) (hx2 : zObj S x2 8) (x3 : Nat) (hx3 : zArr S x3 3) (x4 : Nat) (hx4 : zArr S x4 4) (x5 : Int32) (y0 : Int32) (L : Nat) (xs : Nat → Int32) (hL9 : E.L = L) (hx9 : E.xs = xs) (kn qn : Nat) (k28 : (Int32 × (Nat → Nat → Int64) × (Nat → Nat → UInt64) × Zw) → Option (Int32 × (Nat → Nat → Int64) × (Nat → Nat → UInt64) × Zw)) (hk28 : ∀ a : Int32 × (Nat → Nat → Int64) × (Nat → Nat → UInt64) × Zw, zOk (E, i_L_law, 100) kn qn (zSc S a.2.1 a.2.2.1) a.2.2.2 28 [(0, .ref x0), (1, .ref x1), (2, .ref x2), (3, .ref x3), (4, .ref x4), (5, .int a.1)] [] (emS eI S) (k28 a)) : zOk (E, i_L_law, 100) kn qn S w 516 [(0, .ref x0), (1, .ref x1), (2, .ref x2), (3, .ref x3), (4, .ref x4), (5, .int x5)] [.int y0] (emS eI S) (f_L_law_j516 S L xs w x0 x1 x2 x3 x4 x5 y0 k28) := by
  unfold f_L_law_j516
  refine z_istore (lv' := [(6, .int y0), (0, .ref x0), (1, .ref x1), (2, .ref x2), (3, .ref x3), (4, .ref x4), (5, .int x5)]) dL_law_516 (Nat.le_of_ble_eq_true rfl) rfl (z_aload_n 3 dL_law_518 rfl (z_aload_n 1 dL_law_519 rfl (z_iload 6 dL_law_520 rfl (z_iconst dL_law_522 zi_1 (z_iadd dL_law_523 ?_)))))
  refine z_chk (fun c70 => ?_)
  refine z_sldE hL9 hx9 hx0 c70 dL_law_524 (z_aload_n 1 dL_law_525 rfl (z_iload 6 dL_law_526 rfl (z_iconst dL_law_528 zi_2 (z_iadd dL_law_529 ?_))))
  refine z_chk (fun c71 => ?_)
  refine z_sldE hL9 hx9 hx0 c71 dL_law_530 ?_
  refine z_if_eq 538 dL_law_531 rfl (fun q72 => ?_) (fun q72 => ?_)
  · refine z_iconst dL_law_538 zi_0 ?_
    refine z_sub (lv' := [(0, .ref x0), (1, .ref x1), (2, .ref x2), (3, .ref x3), (4, .ref x4), (5, .int x5), (6, .int y0)]) [1, 2, 3, 4, 5, 6, 0] rfl ?_
    refine z_pc (pc' := 539) rfl ?_
    exact m_L_law_j539 hW w x0 hx0 x1 hx1 x2 hx2 x3 hx3 x4 hx4 x5 y0 (0 : Int32) ((xs (zix (x5 + (1 : Int32))))) x2 hx2 L xs hL9 hx9 kn qn k28 hk28 
  · refine z_iconst dL_law_534 zi_1 (z_goto 539 dL_law_535 rfl ?_)
    refine z_sub (lv' := [(0, .ref x0), (1, .ref x1), (2, .ref x2), (3, .ref x3), (4, .ref x4), (5, .int x5), (6, .int y0)]) [1, 2, 3, 4, 5, 6, 0] rfl ?_
    refine z_pc (pc' := 539) rfl ?_
    exact m_L_law_j539 hW w x0 hx0 x1 hx1 x2 hx2 x3 hx3 x4 hx4 x5 y0 (1 : Int32) ((xs (zix (x5 + (1 : Int32))))) x2 hx2 L xs hL9 hx9 kn qn k28 hk28 

def f_L_law_j512 (S : Zs) (L : Nat) (xs : Nat → Int32) (w : Zw) (x0 : Nat) (x1 : Nat) (x2 : Nat) (x3 : Nat) (x4 : Nat) (x5 : Int32) (y0 : Int32) (y1 : Int32) (y2 : Nat) (k28 : (Int32 × (Nat → Nat → Int64) × (Nat → Nat → UInt64) × Zw) → Option (Int32 × (Nat → Nat → Int64) × (Nat → Nat → UInt64) × Zw)) : Option (Int32 × (Nat → Nat → Int64) × (Nat → Nat → UInt64) × Zw) :=
  (f_L_setClosed S w y2 y1 y0 x3).bind fun r68 => f_L_law_j516 (zSc S r68.2.1 r68.2.2.1) L xs r68.2.2.2 x0 x1 x2 x3 x4 x5 r68.1 k28 
theorem m_L_law_j512 {E : ZE} {S : Zs} (hW : zWF S) (w : Zw) (x0 : Nat) (hx0 : x0 = 0) (x1 : Nat) (hx1 : zObj S x1 7) (x2 : Nat) (hx2 : zObj S x2 8) (x3 : Nat) (hx3 : zArr S x3 3) (x4 : Nat) (hx4 : zArr S x4 4) (x5 : Int32) (y0 : Int32) (y1 : Int32) (y2 : Nat) (hy2 : zObj S y2 7) (L : Nat) (xs : Nat → Int32) (hL9 : E.L = L) (hx9 : E.xs = xs) (kn qn : Nat) (k28 : (Int32 × (Nat → Nat → Int64) × (Nat → Nat → UInt64) × Zw) → Option (Int32 × (Nat → Nat → Int64) × (Nat → Nat → UInt64) × Zw)) (hk28 : ∀ a : Int32 × (Nat → Nat → Int64) × (Nat → Nat → UInt64) × Zw, zOk (E, i_L_law, 100) kn qn (zSc S a.2.1 a.2.2.1) a.2.2.2 28 [(0, .ref x0), (1, .ref x1), (2, .ref x2), (3, .ref x3), (4, .ref x4), (5, .int a.1)] [] (emS eI S) (k28 a)) : zOk (E, i_L_law, 100) (kn + 2) (qn + 12) S w 512 [(0, .ref x0), (1, .ref x1), (2, .ref x2), (3, .ref x3), (4, .ref x4), (5, .int x5)] [.int y0, .int y1, .ref y2] (emS eI S) (f_L_law_j512 S L xs w x0 x1 x2 x3 x4 x5 y0 y1 y2 k28) := by
  unfold f_L_law_j512
  refine z_aload_n 3 dL_law_512 rfl ?_
  refine z_bind (fun r68 hb69 => ?_)
  refine z_callSH (kc' := kn) (ks' := qn) (v := some (.int r68.1)) (S1 := (zSc S r68.2.1 r68.2.2.1)) (w1 := r68.2.2.2) (st := []) [.ref y2, .int y1, .int y0, .ref x3] (m_L_setClosed hW w y2 hy2 y1 y0 x3 hx3 r68 hb69) zy_L_setClosed gw667 gw666 (Nat.le_of_ble_eq_true rfl) (Nat.le_of_ble_eq_true rfl) (by omega) (by omega) (zal hW) rfl dL_law_513 (z_at 516 _ [.int r68.1] rfl rfl rfl ?_)
  refine z_pc (pc' := 516) rfl ?_
  exact m_L_law_j516 (S := (zSc S r68.2.1 r68.2.2.1)) (zSc_WF hW) r68.2.2.2 x0 hx0 x1 (zSc_obj hx1) x2 (zSc_obj hx2) x3 (zSc_arr hx3) x4 (zSc_arr hx4) x5 r68.1 L xs hL9 hx9 kn qn k28 hk28 

def f_L_law_j599 (S : Zs) (L : Nat) (xs : Nat → Int32) (w : Zw) (x0 : Nat) (x1 : Nat) (x2 : Nat) (x3 : Nat) (x4 : Nat) (x5 : Int32) (y0 : Int32) (k28 : (Int32 × (Nat → Nat → Int64) × (Nat → Nat → UInt64) × Zw) → Option (Int32 × (Nat → Nat → Int64) × (Nat → Nat → UInt64) × Zw)) : Option (Int32 × (Nat → Nat → Int64) × (Nat → Nat → UInt64) × Zw) :=
  if zin (x5 + (1 : Int32)) L = true then if zin (x5 + (2 : Int32)) L = true then (f_X8_bay S w x2 (xs (zix (x5 + (1 : Int32)))) (xs (zix (x5 + (2 : Int32))))).bind fun r87 => if (f_X8_thrown S r87.2 x2) = y0 then (if y0 = 0 then (if zin (0 : Int32) (zlen S x3) = true then if (lg_cmp (S.cl x3 (zix (0 : Int32))) ((r87.1).toInt64)) = 0 then k28 ((x5 + (4 : Int32)), S.cl, S.cd, r87.2) else some ((0 : Int32), S.cl, S.cd, r87.2) else none) else k28 ((x5 + (4 : Int32)), S.cl, S.cd, r87.2)) else some ((0 : Int32), S.cl, S.cd, r87.2) else none else none
theorem m_L_law_j599 {E : ZE} {S : Zs} (hW : zWF S) (w : Zw) (x0 : Nat) (hx0 : x0 = 0) (x1 : Nat) (hx1 : zObj S x1 7) (x2 : Nat) (hx2 : zObj S x2 8) (x3 : Nat) (hx3 : zArr S x3 3) (x4 : Nat) (hx4 : zArr S x4 4) (x5 : Int32) (y0 : Int32) (L : Nat) (xs : Nat → Int32) (hL9 : E.L = L) (hx9 : E.xs = xs) (kn qn : Nat) (k28 : (Int32 × (Nat → Nat → Int64) × (Nat → Nat → UInt64) × Zw) → Option (Int32 × (Nat → Nat → Int64) × (Nat → Nat → UInt64) × Zw)) (hk28 : ∀ a : Int32 × (Nat → Nat → Int64) × (Nat → Nat → UInt64) × Zw, zOk (E, i_L_law, 100) kn qn (zSc S a.2.1 a.2.2.1) a.2.2.2 28 [(0, .ref x0), (1, .ref x1), (2, .ref x2), (3, .ref x3), (4, .ref x4), (5, .int a.1)] [] (emS eI S) (k28 a)) : zOk (E, i_L_law, 100) kn qn S w 599 [(0, .ref x0), (1, .ref x1), (2, .ref x2), (3, .ref x3), (4, .ref x4), (5, .int x5)] [.int y0] (emS eI S) (f_L_law_j599 S L xs w x0 x1 x2 x3 x4 x5 y0 k28) := by
  unfold f_L_law_j599
  refine z_istore (lv' := [(6, .int y0), (0, .ref x0), (1, .ref x1), (2, .ref x2), (3, .ref x3), (4, .ref x4), (5, .int x5)]) dL_law_599 (Nat.le_of_ble_eq_true rfl) rfl (z_aload_n 3 dL_law_601 rfl (z_aload_n 1 dL_law_602 rfl (z_iload 6 dL_law_603 rfl (z_iconst dL_law_605 zi_1 (z_iadd dL_law_606 ?_)))))
  refine z_chk (fun c85 => ?_)
  refine z_sldE hL9 hx9 hx0 c85 dL_law_607 (z_aload_n 1 dL_law_608 rfl (z_iload 6 dL_law_609 rfl (z_iconst dL_law_611 zi_2 (z_iadd dL_law_612 ?_))))
  refine z_chk (fun c86 => ?_)
  refine z_sldE hL9 hx9 hx0 c86 dL_law_613 ?_
  refine z_bind (fun r87 hb88 => ?_)
  refine z_callV (kc' := kn) (ks' := qn) (v := (some (.int r87.1))) (S1 := S) (w1 := r87.2) (st := []) [.int (xs (zix (x5 + (1 : Int32)))), .int (xs (zix (x5 + (2 : Int32))))] (m_X8_bay hW w x2 hx2 (xs (zix (x5 + (1 : Int32)))) (xs (zix (x5 + (2 : Int32)))) r87 hb88) zc8 hx2 zy_X8_bay gw1355 gw1356 gw1354 (Nat.le_of_ble_eq_true rfl) (Nat.le_of_ble_eq_true rfl) (Nat.le_of_eq (Nat.zero_add _)) (Nat.le_of_eq (Nat.zero_add _)) (zal hW) rfl dL_law_614 (z_at 617 _ [.int r87.1] rfl rfl rfl ?_)
  refine z_istore (lv' := [(7, .int r87.1), (6, .int y0), (0, .ref x0), (1, .ref x1), (2, .ref x2), (3, .ref x3), (4, .ref x4), (5, .int x5)]) dL_law_617 (Nat.le_of_ble_eq_true rfl) rfl (z_aload_n 4 dL_law_619 rfl ?_)
  refine z_callV (kc' := kn) (ks' := qn) (v := (some (.int (f_X8_thrown S r87.2 x2)))) (S1 := S) (w1 := r87.2) (st := []) [] (m_X8_thrown hW r87.2 x2 hx2) zc8 hx2 zy_X8_thrown gw1098 gw1099 gw1097 (Nat.le_of_ble_eq_true rfl) (Nat.le_of_ble_eq_true rfl) (Nat.le_of_eq (Nat.zero_add _)) (Nat.le_of_eq (Nat.zero_add _)) (zal hW) rfl dL_law_620 (z_at 623 _ [.int (f_X8_thrown S r87.2 x2)] rfl rfl rfl ?_)
  refine z_iload 1 dL_law_623 rfl ?_
  refine z_icmp_eq 630 dL_law_625 rfl (fun q89 => ?_) (fun q89 => ?_)
  · refine z_iload 1 dL_law_630 rfl ?_
    refine z_if_ne 647 dL_law_632 rfl (fun q90 => ?_) (fun q90 => ?_)
    · refine z_goto 1970 dL_law_647 rfl (z_iinc (v := (x5 + (4 : Int32))) (lv' := [(5, .int (x5 + (4 : Int32))), (7, .int r87.1), (6, .int y0), (0, .ref x0), (1, .ref x1), (2, .ref x2), (3, .ref x3), (4, .ref x4)]) 7 dL_law_1970 rfl (zi_inc _ zi_4) (Nat.le_of_ble_eq_true rfl) rfl (z_goto 28 dL_law_1973 rfl ?_))
      refine z_sub (lv' := [(0, .ref x0), (1, .ref x1), (2, .ref x2), (3, .ref x3), (4, .ref x4), (5, .int (x5 + (4 : Int32)))]) [3, 4, 5, 6, 7, 0] rfl ?_
      refine z_pc (pc' := 28) rfl ?_
      exact hk28 ((x5 + (4 : Int32)), S.cl, S.cd, r87.2)
    · refine z_aload_n 5 dL_law_635 rfl (z_iconst dL_law_636 zi_0 ?_)
      refine z_chk (fun c91 => ?_)
      refine z_lald hx3 c91 dL_law_637 (z_iload 0 dL_law_638 rfl (z_i2l (v := (r87.1).toInt64) dL_law_640 rfl (z_lcmp dL_law_641 ?_)))
      refine z_if_eq 647 dL_law_642 rfl (fun q92 => ?_) (fun q92 => ?_)
      · refine z_goto 1970 dL_law_647 rfl (z_iinc (v := (x5 + (4 : Int32))) (lv' := [(5, .int (x5 + (4 : Int32))), (7, .int r87.1), (6, .int y0), (0, .ref x0), (1, .ref x1), (2, .ref x2), (3, .ref x3), (4, .ref x4)]) 7 dL_law_1970 rfl (zi_inc _ zi_4) (Nat.le_of_ble_eq_true rfl) rfl (z_goto 28 dL_law_1973 rfl ?_))
        refine z_sub (lv' := [(0, .ref x0), (1, .ref x1), (2, .ref x2), (3, .ref x3), (4, .ref x4), (5, .int (x5 + (4 : Int32)))]) [3, 4, 5, 6, 7, 0] rfl ?_
        refine z_pc (pc' := 28) rfl ?_
        exact hk28 ((x5 + (4 : Int32)), S.cl, S.cd, r87.2)
      · refine z_iconst dL_law_645 zi_0 ?_
        exact z_zret zemS rfl rfl dL_law_646
  · refine z_iconst dL_law_628 zi_0 ?_
    exact z_zret zemS rfl rfl dL_law_629

def f_L_law_j667 (S : Zs) (L : Nat) (xs : Nat → Int32) (w : Zw) (x0 : Nat) (x1 : Nat) (x2 : Nat) (x3 : Nat) (x4 : Nat) (x5 : Int32) (y0 : Int32) (k28 : (Int32 × (Nat → Nat → Int64) × (Nat → Nat → UInt64) × Zw) → Option (Int32 × (Nat → Nat → Int64) × (Nat → Nat → UInt64) × Zw)) : Option (Int32 × (Nat → Nat → Int64) × (Nat → Nat → UInt64) × Zw) :=
  if zin (x5 + (1 : Int32)) L = true then if zin (x5 + (2 : Int32)) L = true then (f_X8_choice S w x2 (xs (zix (x5 + (1 : Int32)))) (xs (zix (x5 + (2 : Int32))))).bind fun r100 => if (f_X8_thrown S r100.2 x2) = y0 then (if y0 = 0 then (if zin (0 : Int32) (zlen S x3) = true then if (lg_cmp (S.cl x3 (zix (0 : Int32))) ((r100.1).toInt64)) = 0 then k28 ((x5 + (4 : Int32)), S.cl, S.cd, r100.2) else some ((0 : Int32), S.cl, S.cd, r100.2) else none) else k28 ((x5 + (4 : Int32)), S.cl, S.cd, r100.2)) else some ((0 : Int32), S.cl, S.cd, r100.2) else none else none
theorem m_L_law_j667 {E : ZE} {S : Zs} (hW : zWF S) (w : Zw) (x0 : Nat) (hx0 : x0 = 0) (x1 : Nat) (hx1 : zObj S x1 7) (x2 : Nat) (hx2 : zObj S x2 8) (x3 : Nat) (hx3 : zArr S x3 3) (x4 : Nat) (hx4 : zArr S x4 4) (x5 : Int32) (y0 : Int32) (L : Nat) (xs : Nat → Int32) (hL9 : E.L = L) (hx9 : E.xs = xs) (kn qn : Nat) (k28 : (Int32 × (Nat → Nat → Int64) × (Nat → Nat → UInt64) × Zw) → Option (Int32 × (Nat → Nat → Int64) × (Nat → Nat → UInt64) × Zw)) (hk28 : ∀ a : Int32 × (Nat → Nat → Int64) × (Nat → Nat → UInt64) × Zw, zOk (E, i_L_law, 100) kn qn (zSc S a.2.1 a.2.2.1) a.2.2.2 28 [(0, .ref x0), (1, .ref x1), (2, .ref x2), (3, .ref x3), (4, .ref x4), (5, .int a.1)] [] (emS eI S) (k28 a)) : zOk (E, i_L_law, 100) kn qn S w 667 [(0, .ref x0), (1, .ref x1), (2, .ref x2), (3, .ref x3), (4, .ref x4), (5, .int x5)] [.int y0] (emS eI S) (f_L_law_j667 S L xs w x0 x1 x2 x3 x4 x5 y0 k28) := by
  unfold f_L_law_j667
  refine z_istore (lv' := [(6, .int y0), (0, .ref x0), (1, .ref x1), (2, .ref x2), (3, .ref x3), (4, .ref x4), (5, .int x5)]) dL_law_667 (Nat.le_of_ble_eq_true rfl) rfl (z_aload_n 3 dL_law_669 rfl (z_aload_n 1 dL_law_670 rfl (z_iload 6 dL_law_671 rfl (z_iconst dL_law_673 zi_1 (z_iadd dL_law_674 ?_)))))
  refine z_chk (fun c98 => ?_)
  refine z_sldE hL9 hx9 hx0 c98 dL_law_675 (z_aload_n 1 dL_law_676 rfl (z_iload 6 dL_law_677 rfl (z_iconst dL_law_679 zi_2 (z_iadd dL_law_680 ?_))))
  refine z_chk (fun c99 => ?_)
  refine z_sldE hL9 hx9 hx0 c99 dL_law_681 ?_
  refine z_bind (fun r100 hb101 => ?_)
  refine z_callV (kc' := kn) (ks' := qn) (v := (some (.int r100.1))) (S1 := S) (w1 := r100.2) (st := []) [.int (xs (zix (x5 + (1 : Int32)))), .int (xs (zix (x5 + (2 : Int32))))] (m_X8_choice hW w x2 hx2 (xs (zix (x5 + (1 : Int32)))) (xs (zix (x5 + (2 : Int32)))) r100 hb101) zc8 hx2 zy_X8_choice gw1362 gw1363 gw1361 (Nat.le_of_ble_eq_true rfl) (Nat.le_of_ble_eq_true rfl) (Nat.le_of_eq (Nat.zero_add _)) (Nat.le_of_eq (Nat.zero_add _)) (zal hW) rfl dL_law_682 (z_at 685 _ [.int r100.1] rfl rfl rfl ?_)
  refine z_istore (lv' := [(7, .int r100.1), (6, .int y0), (0, .ref x0), (1, .ref x1), (2, .ref x2), (3, .ref x3), (4, .ref x4), (5, .int x5)]) dL_law_685 (Nat.le_of_ble_eq_true rfl) rfl (z_aload_n 4 dL_law_687 rfl ?_)
  refine z_callV (kc' := kn) (ks' := qn) (v := (some (.int (f_X8_thrown S r100.2 x2)))) (S1 := S) (w1 := r100.2) (st := []) [] (m_X8_thrown hW r100.2 x2 hx2) zc8 hx2 zy_X8_thrown gw1098 gw1099 gw1097 (Nat.le_of_ble_eq_true rfl) (Nat.le_of_ble_eq_true rfl) (Nat.le_of_eq (Nat.zero_add _)) (Nat.le_of_eq (Nat.zero_add _)) (zal hW) rfl dL_law_688 (z_at 691 _ [.int (f_X8_thrown S r100.2 x2)] rfl rfl rfl ?_)
  refine z_iload 1 dL_law_691 rfl ?_
  refine z_icmp_eq 698 dL_law_693 rfl (fun q102 => ?_) (fun q102 => ?_)
  · refine z_iload 1 dL_law_698 rfl ?_
    refine z_if_ne 715 dL_law_700 rfl (fun q103 => ?_) (fun q103 => ?_)
    · refine z_goto 1970 dL_law_715 rfl (z_iinc (v := (x5 + (4 : Int32))) (lv' := [(5, .int (x5 + (4 : Int32))), (7, .int r100.1), (6, .int y0), (0, .ref x0), (1, .ref x1), (2, .ref x2), (3, .ref x3), (4, .ref x4)]) 7 dL_law_1970 rfl (zi_inc _ zi_4) (Nat.le_of_ble_eq_true rfl) rfl (z_goto 28 dL_law_1973 rfl ?_))
      refine z_sub (lv' := [(0, .ref x0), (1, .ref x1), (2, .ref x2), (3, .ref x3), (4, .ref x4), (5, .int (x5 + (4 : Int32)))]) [3, 4, 5, 6, 7, 0] rfl ?_
      refine z_pc (pc' := 28) rfl ?_
      exact hk28 ((x5 + (4 : Int32)), S.cl, S.cd, r100.2)
    · refine z_aload_n 5 dL_law_703 rfl (z_iconst dL_law_704 zi_0 ?_)
      refine z_chk (fun c104 => ?_)
      refine z_lald hx3 c104 dL_law_705 (z_iload 0 dL_law_706 rfl (z_i2l (v := (r100.1).toInt64) dL_law_708 rfl (z_lcmp dL_law_709 ?_)))
      refine z_if_eq 715 dL_law_710 rfl (fun q105 => ?_) (fun q105 => ?_)
      · refine z_goto 1970 dL_law_715 rfl (z_iinc (v := (x5 + (4 : Int32))) (lv' := [(5, .int (x5 + (4 : Int32))), (7, .int r100.1), (6, .int y0), (0, .ref x0), (1, .ref x1), (2, .ref x2), (3, .ref x3), (4, .ref x4)]) 7 dL_law_1970 rfl (zi_inc _ zi_4) (Nat.le_of_ble_eq_true rfl) rfl (z_goto 28 dL_law_1973 rfl ?_))
        refine z_sub (lv' := [(0, .ref x0), (1, .ref x1), (2, .ref x2), (3, .ref x3), (4, .ref x4), (5, .int (x5 + (4 : Int32)))]) [3, 4, 5, 6, 7, 0] rfl ?_
        refine z_pc (pc' := 28) rfl ?_
        exact hk28 ((x5 + (4 : Int32)), S.cl, S.cd, r100.2)
      · refine z_iconst dL_law_713 zi_0 ?_
        exact z_zret zemS rfl rfl dL_law_714
  · refine z_iconst dL_law_696 zi_0 ?_
    exact z_zret zemS rfl rfl dL_law_697

def f_L_law_j729 (S : Zs) (L : Nat) (xs : Nat → Int32) (w : Zw) (x0 : Nat) (x1 : Nat) (x2 : Nat) (x3 : Nat) (x4 : Nat) (x5 : Int32) (y0 : Int32) (k28 : (Int32 × (Nat → Nat → Int64) × (Nat → Nat → UInt64) × Zw) → Option (Int32 × (Nat → Nat → Int64) × (Nat → Nat → UInt64) × Zw)) : Option (Int32 × (Nat → Nat → Int64) × (Nat → Nat → UInt64) × Zw) :=
  if zin (x5 + (1 : Int32)) L = true then (f_X8_refuge S w x2 (xs (zix (x5 + (1 : Int32))))).bind fun r111 => if (f_X8_thrown S r111.2 x2) = y0 then (if y0 = 0 then (if zin (0 : Int32) (zlen S x3) = true then if (lg_cmp (S.cl x3 (zix (0 : Int32))) ((r111.1).toInt64)) = 0 then k28 ((x5 + (4 : Int32)), S.cl, S.cd, r111.2) else some ((0 : Int32), S.cl, S.cd, r111.2) else none) else k28 ((x5 + (4 : Int32)), S.cl, S.cd, r111.2)) else some ((0 : Int32), S.cl, S.cd, r111.2) else none
theorem m_L_law_j729 {E : ZE} {S : Zs} (hW : zWF S) (w : Zw) (x0 : Nat) (hx0 : x0 = 0) (x1 : Nat) (hx1 : zObj S x1 7) (x2 : Nat) (hx2 : zObj S x2 8) (x3 : Nat) (hx3 : zArr S x3 3) (x4 : Nat) (hx4 : zArr S x4 4) (x5 : Int32) (y0 : Int32) (L : Nat) (xs : Nat → Int32) (hL9 : E.L = L) (hx9 : E.xs = xs) (kn qn : Nat) (k28 : (Int32 × (Nat → Nat → Int64) × (Nat → Nat → UInt64) × Zw) → Option (Int32 × (Nat → Nat → Int64) × (Nat → Nat → UInt64) × Zw)) (hk28 : ∀ a : Int32 × (Nat → Nat → Int64) × (Nat → Nat → UInt64) × Zw, zOk (E, i_L_law, 100) kn qn (zSc S a.2.1 a.2.2.1) a.2.2.2 28 [(0, .ref x0), (1, .ref x1), (2, .ref x2), (3, .ref x3), (4, .ref x4), (5, .int a.1)] [] (emS eI S) (k28 a)) : zOk (E, i_L_law, 100) kn qn S w 729 [(0, .ref x0), (1, .ref x1), (2, .ref x2), (3, .ref x3), (4, .ref x4), (5, .int x5)] [.int y0] (emS eI S) (f_L_law_j729 S L xs w x0 x1 x2 x3 x4 x5 y0 k28) := by
  unfold f_L_law_j729
  refine z_istore (lv' := [(6, .int y0), (0, .ref x0), (1, .ref x1), (2, .ref x2), (3, .ref x3), (4, .ref x4), (5, .int x5)]) dL_law_729 (Nat.le_of_ble_eq_true rfl) rfl (z_aload_n 3 dL_law_731 rfl (z_aload_n 1 dL_law_732 rfl (z_iload 6 dL_law_733 rfl (z_iconst dL_law_735 zi_1 (z_iadd dL_law_736 ?_)))))
  refine z_chk (fun c110 => ?_)
  refine z_sldE hL9 hx9 hx0 c110 dL_law_737 ?_
  refine z_bind (fun r111 hb112 => ?_)
  refine z_callV (kc' := kn) (ks' := qn) (v := (some (.int r111.1))) (S1 := S) (w1 := r111.2) (st := []) [.int (xs (zix (x5 + (1 : Int32))))] (m_X8_refuge hW w x2 hx2 (xs (zix (x5 + (1 : Int32)))) r111 hb112) zc8 hx2 zy_X8_refuge gw1366 gw1367 gw1365 (Nat.le_of_ble_eq_true rfl) (Nat.le_of_ble_eq_true rfl) (Nat.le_of_eq (Nat.zero_add _)) (Nat.le_of_eq (Nat.zero_add _)) (zal hW) rfl dL_law_738 (z_at 741 _ [.int r111.1] rfl rfl rfl ?_)
  refine z_istore (lv' := [(7, .int r111.1), (6, .int y0), (0, .ref x0), (1, .ref x1), (2, .ref x2), (3, .ref x3), (4, .ref x4), (5, .int x5)]) dL_law_741 (Nat.le_of_ble_eq_true rfl) rfl (z_aload_n 4 dL_law_743 rfl ?_)
  refine z_callV (kc' := kn) (ks' := qn) (v := (some (.int (f_X8_thrown S r111.2 x2)))) (S1 := S) (w1 := r111.2) (st := []) [] (m_X8_thrown hW r111.2 x2 hx2) zc8 hx2 zy_X8_thrown gw1098 gw1099 gw1097 (Nat.le_of_ble_eq_true rfl) (Nat.le_of_ble_eq_true rfl) (Nat.le_of_eq (Nat.zero_add _)) (Nat.le_of_eq (Nat.zero_add _)) (zal hW) rfl dL_law_744 (z_at 747 _ [.int (f_X8_thrown S r111.2 x2)] rfl rfl rfl ?_)
  refine z_iload 1 dL_law_747 rfl ?_
  refine z_icmp_eq 754 dL_law_749 rfl (fun q113 => ?_) (fun q113 => ?_)
  · refine z_iload 1 dL_law_754 rfl ?_
    refine z_if_ne 771 dL_law_756 rfl (fun q114 => ?_) (fun q114 => ?_)
    · refine z_goto 1970 dL_law_771 rfl (z_iinc (v := (x5 + (4 : Int32))) (lv' := [(5, .int (x5 + (4 : Int32))), (7, .int r111.1), (6, .int y0), (0, .ref x0), (1, .ref x1), (2, .ref x2), (3, .ref x3), (4, .ref x4)]) 7 dL_law_1970 rfl (zi_inc _ zi_4) (Nat.le_of_ble_eq_true rfl) rfl (z_goto 28 dL_law_1973 rfl ?_))
      refine z_sub (lv' := [(0, .ref x0), (1, .ref x1), (2, .ref x2), (3, .ref x3), (4, .ref x4), (5, .int (x5 + (4 : Int32)))]) [3, 4, 5, 6, 7, 0] rfl ?_
      refine z_pc (pc' := 28) rfl ?_
      exact hk28 ((x5 + (4 : Int32)), S.cl, S.cd, r111.2)
    · refine z_aload_n 5 dL_law_759 rfl (z_iconst dL_law_760 zi_0 ?_)
      refine z_chk (fun c115 => ?_)
      refine z_lald hx3 c115 dL_law_761 (z_iload 0 dL_law_762 rfl (z_i2l (v := (r111.1).toInt64) dL_law_764 rfl (z_lcmp dL_law_765 ?_)))
      refine z_if_eq 771 dL_law_766 rfl (fun q116 => ?_) (fun q116 => ?_)
      · refine z_goto 1970 dL_law_771 rfl (z_iinc (v := (x5 + (4 : Int32))) (lv' := [(5, .int (x5 + (4 : Int32))), (7, .int r111.1), (6, .int y0), (0, .ref x0), (1, .ref x1), (2, .ref x2), (3, .ref x3), (4, .ref x4)]) 7 dL_law_1970 rfl (zi_inc _ zi_4) (Nat.le_of_ble_eq_true rfl) rfl (z_goto 28 dL_law_1973 rfl ?_))
        refine z_sub (lv' := [(0, .ref x0), (1, .ref x1), (2, .ref x2), (3, .ref x3), (4, .ref x4), (5, .int (x5 + (4 : Int32)))]) [3, 4, 5, 6, 7, 0] rfl ?_
        refine z_pc (pc' := 28) rfl ?_
        exact hk28 ((x5 + (4 : Int32)), S.cl, S.cd, r111.2)
      · refine z_iconst dL_law_769 zi_0 ?_
        exact z_zret zemS rfl rfl dL_law_770
  · refine z_iconst dL_law_752 zi_0 ?_
    exact z_zret zemS rfl rfl dL_law_753

def f_L_law_j785 (S : Zs) (L : Nat) (xs : Nat → Int32) (w : Zw) (x0 : Nat) (x1 : Nat) (x2 : Nat) (x3 : Nat) (x4 : Nat) (x5 : Int32) (y0 : Int32) (k28 : (Int32 × (Nat → Nat → Int64) × (Nat → Nat → UInt64) × Zw) → Option (Int32 × (Nat → Nat → Int64) × (Nat → Nat → UInt64) × Zw)) : Option (Int32 × (Nat → Nat → Int64) × (Nat → Nat → UInt64) × Zw) :=
  if zin (x5 + (1 : Int32)) L = true then (f_X8_bays S w x2 (xs (zix (x5 + (1 : Int32))))).bind fun r122 => if (f_X8_thrown S r122.2 x2) = y0 then (if y0 = 0 then (if zin (0 : Int32) (zlen S x3) = true then if (lg_cmp (S.cl x3 (zix (0 : Int32))) ((r122.1).toInt64)) = 0 then k28 ((x5 + (4 : Int32)), S.cl, S.cd, r122.2) else some ((0 : Int32), S.cl, S.cd, r122.2) else none) else k28 ((x5 + (4 : Int32)), S.cl, S.cd, r122.2)) else some ((0 : Int32), S.cl, S.cd, r122.2) else none
theorem m_L_law_j785 {E : ZE} {S : Zs} (hW : zWF S) (w : Zw) (x0 : Nat) (hx0 : x0 = 0) (x1 : Nat) (hx1 : zObj S x1 7) (x2 : Nat) (hx2 : zObj S x2 8) (x3 : Nat) (hx3 : zArr S x3 3) (x4 : Nat) (hx4 : zArr S x4 4) (x5 : Int32) (y0 : Int32) (L : Nat) (xs : Nat → Int32) (hL9 : E.L = L) (hx9 : E.xs = xs) (kn qn : Nat) (k28 : (Int32 × (Nat → Nat → Int64) × (Nat → Nat → UInt64) × Zw) → Option (Int32 × (Nat → Nat → Int64) × (Nat → Nat → UInt64) × Zw)) (hk28 : ∀ a : Int32 × (Nat → Nat → Int64) × (Nat → Nat → UInt64) × Zw, zOk (E, i_L_law, 100) kn qn (zSc S a.2.1 a.2.2.1) a.2.2.2 28 [(0, .ref x0), (1, .ref x1), (2, .ref x2), (3, .ref x3), (4, .ref x4), (5, .int a.1)] [] (emS eI S) (k28 a)) : zOk (E, i_L_law, 100) kn qn S w 785 [(0, .ref x0), (1, .ref x1), (2, .ref x2), (3, .ref x3), (4, .ref x4), (5, .int x5)] [.int y0] (emS eI S) (f_L_law_j785 S L xs w x0 x1 x2 x3 x4 x5 y0 k28) := by
  unfold f_L_law_j785
  refine z_istore (lv' := [(6, .int y0), (0, .ref x0), (1, .ref x1), (2, .ref x2), (3, .ref x3), (4, .ref x4), (5, .int x5)]) dL_law_785 (Nat.le_of_ble_eq_true rfl) rfl (z_aload_n 3 dL_law_787 rfl (z_aload_n 1 dL_law_788 rfl (z_iload 6 dL_law_789 rfl (z_iconst dL_law_791 zi_1 (z_iadd dL_law_792 ?_)))))
  refine z_chk (fun c121 => ?_)
  refine z_sldE hL9 hx9 hx0 c121 dL_law_793 ?_
  refine z_bind (fun r122 hb123 => ?_)
  refine z_callV (kc' := kn) (ks' := qn) (v := (some (.int r122.1))) (S1 := S) (w1 := r122.2) (st := []) [.int (xs (zix (x5 + (1 : Int32))))] (m_X8_bays hW w x2 hx2 (xs (zix (x5 + (1 : Int32)))) r122 hb123) zc8 hx2 zy_X8_bays gw1370 gw1371 gw1369 (Nat.le_of_ble_eq_true rfl) (Nat.le_of_ble_eq_true rfl) (Nat.le_of_eq (Nat.zero_add _)) (Nat.le_of_eq (Nat.zero_add _)) (zal hW) rfl dL_law_794 (z_at 797 _ [.int r122.1] rfl rfl rfl ?_)
  refine z_istore (lv' := [(7, .int r122.1), (6, .int y0), (0, .ref x0), (1, .ref x1), (2, .ref x2), (3, .ref x3), (4, .ref x4), (5, .int x5)]) dL_law_797 (Nat.le_of_ble_eq_true rfl) rfl (z_aload_n 4 dL_law_799 rfl ?_)
  refine z_callV (kc' := kn) (ks' := qn) (v := (some (.int (f_X8_thrown S r122.2 x2)))) (S1 := S) (w1 := r122.2) (st := []) [] (m_X8_thrown hW r122.2 x2 hx2) zc8 hx2 zy_X8_thrown gw1098 gw1099 gw1097 (Nat.le_of_ble_eq_true rfl) (Nat.le_of_ble_eq_true rfl) (Nat.le_of_eq (Nat.zero_add _)) (Nat.le_of_eq (Nat.zero_add _)) (zal hW) rfl dL_law_800 (z_at 803 _ [.int (f_X8_thrown S r122.2 x2)] rfl rfl rfl ?_)
  refine z_iload 1 dL_law_803 rfl ?_
  refine z_icmp_eq 810 dL_law_805 rfl (fun q124 => ?_) (fun q124 => ?_)
  · refine z_iload 1 dL_law_810 rfl ?_
    refine z_if_ne 827 dL_law_812 rfl (fun q125 => ?_) (fun q125 => ?_)
    · refine z_goto 1970 dL_law_827 rfl (z_iinc (v := (x5 + (4 : Int32))) (lv' := [(5, .int (x5 + (4 : Int32))), (7, .int r122.1), (6, .int y0), (0, .ref x0), (1, .ref x1), (2, .ref x2), (3, .ref x3), (4, .ref x4)]) 7 dL_law_1970 rfl (zi_inc _ zi_4) (Nat.le_of_ble_eq_true rfl) rfl (z_goto 28 dL_law_1973 rfl ?_))
      refine z_sub (lv' := [(0, .ref x0), (1, .ref x1), (2, .ref x2), (3, .ref x3), (4, .ref x4), (5, .int (x5 + (4 : Int32)))]) [3, 4, 5, 6, 7, 0] rfl ?_
      refine z_pc (pc' := 28) rfl ?_
      exact hk28 ((x5 + (4 : Int32)), S.cl, S.cd, r122.2)
    · refine z_aload_n 5 dL_law_815 rfl (z_iconst dL_law_816 zi_0 ?_)
      refine z_chk (fun c126 => ?_)
      refine z_lald hx3 c126 dL_law_817 (z_iload 0 dL_law_818 rfl (z_i2l (v := (r122.1).toInt64) dL_law_820 rfl (z_lcmp dL_law_821 ?_)))
      refine z_if_eq 827 dL_law_822 rfl (fun q127 => ?_) (fun q127 => ?_)
      · refine z_goto 1970 dL_law_827 rfl (z_iinc (v := (x5 + (4 : Int32))) (lv' := [(5, .int (x5 + (4 : Int32))), (7, .int r122.1), (6, .int y0), (0, .ref x0), (1, .ref x1), (2, .ref x2), (3, .ref x3), (4, .ref x4)]) 7 dL_law_1970 rfl (zi_inc _ zi_4) (Nat.le_of_ble_eq_true rfl) rfl (z_goto 28 dL_law_1973 rfl ?_))
        refine z_sub (lv' := [(0, .ref x0), (1, .ref x1), (2, .ref x2), (3, .ref x3), (4, .ref x4), (5, .int (x5 + (4 : Int32)))]) [3, 4, 5, 6, 7, 0] rfl ?_
        refine z_pc (pc' := 28) rfl ?_
        exact hk28 ((x5 + (4 : Int32)), S.cl, S.cd, r122.2)
      · refine z_iconst dL_law_825 zi_0 ?_
        exact z_zret zemS rfl rfl dL_law_826
  · refine z_iconst dL_law_808 zi_0 ?_
    exact z_zret zemS rfl rfl dL_law_809

def f_L_law_j857 (S : Zs) (L : Nat) (xs : Nat → Int32) (w : Zw) (x0 : Nat) (x1 : Nat) (x2 : Nat) (x3 : Nat) (x4 : Nat) (x5 : Int32) (y0 : Int32) (k28 : (Int32 × (Nat → Nat → Int64) × (Nat → Nat → UInt64) × Zw) → Option (Int32 × (Nat → Nat → Int64) × (Nat → Nat → UInt64) × Zw)) : Option (Int32 × (Nat → Nat → Int64) × (Nat → Nat → UInt64) × Zw) :=
  if zin (x5 + (1 : Int32)) L = true then if zin (x5 + (2 : Int32)) L = true then (f_X8_bestMoves S w x2 ((zlshl (((xs (zix (x5 + (1 : Int32))))).toInt64) (32 : Int32)) ||| (((xs (zix (x5 + (2 : Int32))))).toInt64 &&& (4294967295 : Int64)))).bind fun r135 => if (f_X8_thrown S r135.2 x2) = y0 then (if y0 = 0 then (if zin (0 : Int32) (zlen S x3) = true then if (lg_cmp (S.cl x3 (zix (0 : Int32))) ((r135.1).toInt64)) = 0 then k28 ((x5 + (4 : Int32)), S.cl, S.cd, r135.2) else some ((0 : Int32), S.cl, S.cd, r135.2) else none) else k28 ((x5 + (4 : Int32)), S.cl, S.cd, r135.2)) else some ((0 : Int32), S.cl, S.cd, r135.2) else none else none
theorem m_L_law_j857 {E : ZE} {S : Zs} (hW : zWF S) (w : Zw) (x0 : Nat) (hx0 : x0 = 0) (x1 : Nat) (hx1 : zObj S x1 7) (x2 : Nat) (hx2 : zObj S x2 8) (x3 : Nat) (hx3 : zArr S x3 3) (x4 : Nat) (hx4 : zArr S x4 4) (x5 : Int32) (y0 : Int32) (L : Nat) (xs : Nat → Int32) (hL9 : E.L = L) (hx9 : E.xs = xs) (kn qn : Nat) (k28 : (Int32 × (Nat → Nat → Int64) × (Nat → Nat → UInt64) × Zw) → Option (Int32 × (Nat → Nat → Int64) × (Nat → Nat → UInt64) × Zw)) (hk28 : ∀ a : Int32 × (Nat → Nat → Int64) × (Nat → Nat → UInt64) × Zw, zOk (E, i_L_law, 100) kn qn (zSc S a.2.1 a.2.2.1) a.2.2.2 28 [(0, .ref x0), (1, .ref x1), (2, .ref x2), (3, .ref x3), (4, .ref x4), (5, .int a.1)] [] (emS eI S) (k28 a)) : zOk (E, i_L_law, 100) kn qn S w 857 [(0, .ref x0), (1, .ref x1), (2, .ref x2), (3, .ref x3), (4, .ref x4), (5, .int x5)] [.int y0] (emS eI S) (f_L_law_j857 S L xs w x0 x1 x2 x3 x4 x5 y0 k28) := by
  unfold f_L_law_j857
  refine z_istore (lv' := [(6, .int y0), (0, .ref x0), (1, .ref x1), (2, .ref x2), (3, .ref x3), (4, .ref x4), (5, .int x5)]) dL_law_857 (Nat.le_of_ble_eq_true rfl) rfl (z_aload_n 3 dL_law_859 rfl (z_aload_n 1 dL_law_860 rfl (z_iload 6 dL_law_861 rfl (z_iconst dL_law_863 zi_1 (z_iadd dL_law_864 ?_)))))
  refine z_chk (fun c133 => ?_)
  refine z_sldE hL9 hx9 hx0 c133 dL_law_865 (z_i2l (v := ((xs (zix (x5 + (1 : Int32))))).toInt64) dL_law_866 rfl (z_bipush dL_law_867 zb_32 (z_lshl (v := (zlshl (((xs (zix (x5 + (1 : Int32))))).toInt64) (32 : Int32))) dL_law_869 rfl (z_aload_n 1 dL_law_870 rfl (z_iload 6 dL_law_871 rfl ?_)))))
  refine z_iconst dL_law_873 zi_2 (z_iadd dL_law_874 ?_)
  refine z_chk (fun c134 => ?_)
  refine z_sldE hL9 hx9 hx0 c134 dL_law_875 (z_i2l (v := ((xs (zix (x5 + (2 : Int32))))).toInt64) dL_law_876 rfl (z_ldc2 dL_law_877 gw1510 (z_land dL_law_880 (z_lor dL_law_881 ?_))))
  refine z_bind (fun r135 hb136 => ?_)
  refine z_callV (kc' := kn) (ks' := qn) (v := (some (.int r135.1))) (S1 := S) (w1 := r135.2) (st := []) [.long ((zlshl (((xs (zix (x5 + (1 : Int32))))).toInt64) (32 : Int32)) ||| (((xs (zix (x5 + (2 : Int32))))).toInt64 &&& (4294967295 : Int64)))] (m_X8_bestMoves hW w x2 hx2 ((zlshl (((xs (zix (x5 + (1 : Int32))))).toInt64) (32 : Int32)) ||| (((xs (zix (x5 + (2 : Int32))))).toInt64 &&& (4294967295 : Int64))) r135 hb136) zc8 hx2 zy_X8_bestMoves gw1378 gw1379 gw1377 (Nat.le_of_ble_eq_true rfl) (Nat.le_of_ble_eq_true rfl) (Nat.le_of_eq (Nat.zero_add _)) (Nat.le_of_eq (Nat.zero_add _)) (zal hW) rfl dL_law_882 (z_at 885 _ [.int r135.1] rfl rfl rfl ?_)
  refine z_istore (lv' := [(7, .int r135.1), (6, .int y0), (0, .ref x0), (1, .ref x1), (2, .ref x2), (3, .ref x3), (4, .ref x4), (5, .int x5)]) dL_law_885 (Nat.le_of_ble_eq_true rfl) rfl (z_aload_n 4 dL_law_887 rfl ?_)
  refine z_callV (kc' := kn) (ks' := qn) (v := (some (.int (f_X8_thrown S r135.2 x2)))) (S1 := S) (w1 := r135.2) (st := []) [] (m_X8_thrown hW r135.2 x2 hx2) zc8 hx2 zy_X8_thrown gw1098 gw1099 gw1097 (Nat.le_of_ble_eq_true rfl) (Nat.le_of_ble_eq_true rfl) (Nat.le_of_eq (Nat.zero_add _)) (Nat.le_of_eq (Nat.zero_add _)) (zal hW) rfl dL_law_888 (z_at 891 _ [.int (f_X8_thrown S r135.2 x2)] rfl rfl rfl ?_)
  refine z_iload 1 dL_law_891 rfl ?_
  refine z_icmp_eq 898 dL_law_893 rfl (fun q137 => ?_) (fun q137 => ?_)
  · refine z_iload 1 dL_law_898 rfl ?_
    refine z_if_ne 915 dL_law_900 rfl (fun q138 => ?_) (fun q138 => ?_)
    · refine z_goto 1970 dL_law_915 rfl (z_iinc (v := (x5 + (4 : Int32))) (lv' := [(5, .int (x5 + (4 : Int32))), (7, .int r135.1), (6, .int y0), (0, .ref x0), (1, .ref x1), (2, .ref x2), (3, .ref x3), (4, .ref x4)]) 7 dL_law_1970 rfl (zi_inc _ zi_4) (Nat.le_of_ble_eq_true rfl) rfl (z_goto 28 dL_law_1973 rfl ?_))
      refine z_sub (lv' := [(0, .ref x0), (1, .ref x1), (2, .ref x2), (3, .ref x3), (4, .ref x4), (5, .int (x5 + (4 : Int32)))]) [3, 4, 5, 6, 7, 0] rfl ?_
      refine z_pc (pc' := 28) rfl ?_
      exact hk28 ((x5 + (4 : Int32)), S.cl, S.cd, r135.2)
    · refine z_aload_n 5 dL_law_903 rfl (z_iconst dL_law_904 zi_0 ?_)
      refine z_chk (fun c139 => ?_)
      refine z_lald hx3 c139 dL_law_905 (z_iload 0 dL_law_906 rfl (z_i2l (v := (r135.1).toInt64) dL_law_908 rfl (z_lcmp dL_law_909 ?_)))
      refine z_if_eq 915 dL_law_910 rfl (fun q140 => ?_) (fun q140 => ?_)
      · refine z_goto 1970 dL_law_915 rfl (z_iinc (v := (x5 + (4 : Int32))) (lv' := [(5, .int (x5 + (4 : Int32))), (7, .int r135.1), (6, .int y0), (0, .ref x0), (1, .ref x1), (2, .ref x2), (3, .ref x3), (4, .ref x4)]) 7 dL_law_1970 rfl (zi_inc _ zi_4) (Nat.le_of_ble_eq_true rfl) rfl (z_goto 28 dL_law_1973 rfl ?_))
        refine z_sub (lv' := [(0, .ref x0), (1, .ref x1), (2, .ref x2), (3, .ref x3), (4, .ref x4), (5, .int (x5 + (4 : Int32)))]) [3, 4, 5, 6, 7, 0] rfl ?_
        refine z_pc (pc' := 28) rfl ?_
        exact hk28 ((x5 + (4 : Int32)), S.cl, S.cd, r135.2)
      · refine z_iconst dL_law_913 zi_0 ?_
        exact z_zret zemS rfl rfl dL_law_914
  · refine z_iconst dL_law_896 zi_0 ?_
    exact z_zret zemS rfl rfl dL_law_897

def f_L_law_j945 (S : Zs) (L : Nat) (xs : Nat → Int32) (w : Zw) (x0 : Nat) (x1 : Nat) (x2 : Nat) (x3 : Nat) (x4 : Nat) (x5 : Int32) (y0 : Int32) (k28 : (Int32 × (Nat → Nat → Int64) × (Nat → Nat → UInt64) × Zw) → Option (Int32 × (Nat → Nat → Int64) × (Nat → Nat → UInt64) × Zw)) : Option (Int32 × (Nat → Nat → Int64) × (Nat → Nat → UInt64) × Zw) :=
  if zin (x5 + (1 : Int32)) L = true then if zin (x5 + (2 : Int32)) L = true then (f_X8_bestEnd S w x2 ((zlshl (((xs (zix (x5 + (1 : Int32))))).toInt64) (32 : Int32)) ||| (((xs (zix (x5 + (2 : Int32))))).toInt64 &&& (4294967295 : Int64)))).bind fun r148 => if (f_X8_thrown S r148.2 x2) = y0 then (if y0 = 0 then (if zin (0 : Int32) (zlen S x3) = true then if (lg_cmp (S.cl x3 (zix (0 : Int32))) ((r148.1).toInt64)) = 0 then k28 ((x5 + (4 : Int32)), S.cl, S.cd, r148.2) else some ((0 : Int32), S.cl, S.cd, r148.2) else none) else k28 ((x5 + (4 : Int32)), S.cl, S.cd, r148.2)) else some ((0 : Int32), S.cl, S.cd, r148.2) else none else none
theorem m_L_law_j945 {E : ZE} {S : Zs} (hW : zWF S) (w : Zw) (x0 : Nat) (hx0 : x0 = 0) (x1 : Nat) (hx1 : zObj S x1 7) (x2 : Nat) (hx2 : zObj S x2 8) (x3 : Nat) (hx3 : zArr S x3 3) (x4 : Nat) (hx4 : zArr S x4 4) (x5 : Int32) (y0 : Int32) (L : Nat) (xs : Nat → Int32) (hL9 : E.L = L) (hx9 : E.xs = xs) (kn qn : Nat) (k28 : (Int32 × (Nat → Nat → Int64) × (Nat → Nat → UInt64) × Zw) → Option (Int32 × (Nat → Nat → Int64) × (Nat → Nat → UInt64) × Zw)) (hk28 : ∀ a : Int32 × (Nat → Nat → Int64) × (Nat → Nat → UInt64) × Zw, zOk (E, i_L_law, 100) kn qn (zSc S a.2.1 a.2.2.1) a.2.2.2 28 [(0, .ref x0), (1, .ref x1), (2, .ref x2), (3, .ref x3), (4, .ref x4), (5, .int a.1)] [] (emS eI S) (k28 a)) : zOk (E, i_L_law, 100) kn qn S w 945 [(0, .ref x0), (1, .ref x1), (2, .ref x2), (3, .ref x3), (4, .ref x4), (5, .int x5)] [.int y0] (emS eI S) (f_L_law_j945 S L xs w x0 x1 x2 x3 x4 x5 y0 k28) := by
  unfold f_L_law_j945
  refine z_istore (lv' := [(6, .int y0), (0, .ref x0), (1, .ref x1), (2, .ref x2), (3, .ref x3), (4, .ref x4), (5, .int x5)]) dL_law_945 (Nat.le_of_ble_eq_true rfl) rfl (z_aload_n 3 dL_law_947 rfl (z_aload_n 1 dL_law_948 rfl (z_iload 6 dL_law_949 rfl (z_iconst dL_law_951 zi_1 (z_iadd dL_law_952 ?_)))))
  refine z_chk (fun c146 => ?_)
  refine z_sldE hL9 hx9 hx0 c146 dL_law_953 (z_i2l (v := ((xs (zix (x5 + (1 : Int32))))).toInt64) dL_law_954 rfl (z_bipush dL_law_955 zb_32 (z_lshl (v := (zlshl (((xs (zix (x5 + (1 : Int32))))).toInt64) (32 : Int32))) dL_law_957 rfl (z_aload_n 1 dL_law_958 rfl (z_iload 6 dL_law_959 rfl ?_)))))
  refine z_iconst dL_law_961 zi_2 (z_iadd dL_law_962 ?_)
  refine z_chk (fun c147 => ?_)
  refine z_sldE hL9 hx9 hx0 c147 dL_law_963 (z_i2l (v := ((xs (zix (x5 + (2 : Int32))))).toInt64) dL_law_964 rfl (z_ldc2 dL_law_965 gw1510 (z_land dL_law_968 (z_lor dL_law_969 ?_))))
  refine z_bind (fun r148 hb149 => ?_)
  refine z_callV (kc' := kn) (ks' := qn) (v := (some (.int r148.1))) (S1 := S) (w1 := r148.2) (st := []) [.long ((zlshl (((xs (zix (x5 + (1 : Int32))))).toInt64) (32 : Int32)) ||| (((xs (zix (x5 + (2 : Int32))))).toInt64 &&& (4294967295 : Int64)))] (m_X8_bestEnd hW w x2 hx2 ((zlshl (((xs (zix (x5 + (1 : Int32))))).toInt64) (32 : Int32)) ||| (((xs (zix (x5 + (2 : Int32))))).toInt64 &&& (4294967295 : Int64))) r148 hb149) zc8 hx2 zy_X8_bestEnd gw1403 gw1404 gw1402 (Nat.le_of_ble_eq_true rfl) (Nat.le_of_ble_eq_true rfl) (Nat.le_of_eq (Nat.zero_add _)) (Nat.le_of_eq (Nat.zero_add _)) (zal hW) rfl dL_law_970 (z_at 973 _ [.int r148.1] rfl rfl rfl ?_)
  refine z_istore (lv' := [(7, .int r148.1), (6, .int y0), (0, .ref x0), (1, .ref x1), (2, .ref x2), (3, .ref x3), (4, .ref x4), (5, .int x5)]) dL_law_973 (Nat.le_of_ble_eq_true rfl) rfl (z_aload_n 4 dL_law_975 rfl ?_)
  refine z_callV (kc' := kn) (ks' := qn) (v := (some (.int (f_X8_thrown S r148.2 x2)))) (S1 := S) (w1 := r148.2) (st := []) [] (m_X8_thrown hW r148.2 x2 hx2) zc8 hx2 zy_X8_thrown gw1098 gw1099 gw1097 (Nat.le_of_ble_eq_true rfl) (Nat.le_of_ble_eq_true rfl) (Nat.le_of_eq (Nat.zero_add _)) (Nat.le_of_eq (Nat.zero_add _)) (zal hW) rfl dL_law_976 (z_at 979 _ [.int (f_X8_thrown S r148.2 x2)] rfl rfl rfl ?_)
  refine z_iload 1 dL_law_979 rfl ?_
  refine z_icmp_eq 986 dL_law_981 rfl (fun q150 => ?_) (fun q150 => ?_)
  · refine z_iload 1 dL_law_986 rfl ?_
    refine z_if_ne 1003 dL_law_988 rfl (fun q151 => ?_) (fun q151 => ?_)
    · refine z_goto 1970 dL_law_1003 rfl (z_iinc (v := (x5 + (4 : Int32))) (lv' := [(5, .int (x5 + (4 : Int32))), (7, .int r148.1), (6, .int y0), (0, .ref x0), (1, .ref x1), (2, .ref x2), (3, .ref x3), (4, .ref x4)]) 7 dL_law_1970 rfl (zi_inc _ zi_4) (Nat.le_of_ble_eq_true rfl) rfl (z_goto 28 dL_law_1973 rfl ?_))
      refine z_sub (lv' := [(0, .ref x0), (1, .ref x1), (2, .ref x2), (3, .ref x3), (4, .ref x4), (5, .int (x5 + (4 : Int32)))]) [3, 4, 5, 6, 7, 0] rfl ?_
      refine z_pc (pc' := 28) rfl ?_
      exact hk28 ((x5 + (4 : Int32)), S.cl, S.cd, r148.2)
    · refine z_aload_n 5 dL_law_991 rfl (z_iconst dL_law_992 zi_0 ?_)
      refine z_chk (fun c152 => ?_)
      refine z_lald hx3 c152 dL_law_993 (z_iload 0 dL_law_994 rfl (z_i2l (v := (r148.1).toInt64) dL_law_996 rfl (z_lcmp dL_law_997 ?_)))
      refine z_if_eq 1003 dL_law_998 rfl (fun q153 => ?_) (fun q153 => ?_)
      · refine z_goto 1970 dL_law_1003 rfl (z_iinc (v := (x5 + (4 : Int32))) (lv' := [(5, .int (x5 + (4 : Int32))), (7, .int r148.1), (6, .int y0), (0, .ref x0), (1, .ref x1), (2, .ref x2), (3, .ref x3), (4, .ref x4)]) 7 dL_law_1970 rfl (zi_inc _ zi_4) (Nat.le_of_ble_eq_true rfl) rfl (z_goto 28 dL_law_1973 rfl ?_))
        refine z_sub (lv' := [(0, .ref x0), (1, .ref x1), (2, .ref x2), (3, .ref x3), (4, .ref x4), (5, .int (x5 + (4 : Int32)))]) [3, 4, 5, 6, 7, 0] rfl ?_
        refine z_pc (pc' := 28) rfl ?_
        exact hk28 ((x5 + (4 : Int32)), S.cl, S.cd, r148.2)
      · refine z_iconst dL_law_1001 zi_0 ?_
        exact z_zret zemS rfl rfl dL_law_1002
  · refine z_iconst dL_law_984 zi_0 ?_
    exact z_zret zemS rfl rfl dL_law_985

def f_L_law_j1039 (S : Zs) (L : Nat) (xs : Nat → Int32) (w : Zw) (x0 : Nat) (x1 : Nat) (x2 : Nat) (x3 : Nat) (x4 : Nat) (x5 : Int32) (y0 : Int32) (k28 : (Int32 × (Nat → Nat → Int64) × (Nat → Nat → UInt64) × Zw) → Option (Int32 × (Nat → Nat → Int64) × (Nat → Nat → UInt64) × Zw)) : Option (Int32 × (Nat → Nat → Int64) × (Nat → Nat → UInt64) × Zw) :=
  if zin (x5 + (1 : Int32)) L = true then if zin (x5 + (2 : Int32)) L = true then if zin (x5 + (3 : Int32)) L = true then (f_X8_bestCar S w x2 ((zlshl (((xs (zix (x5 + (1 : Int32))))).toInt64) (32 : Int32)) ||| (((xs (zix (x5 + (2 : Int32))))).toInt64 &&& (4294967295 : Int64))) (xs (zix (x5 + (3 : Int32))))).bind fun r163 => if (f_X8_thrown S r163.2 x2) = y0 then (if y0 = 0 then (if zin (0 : Int32) (zlen S x3) = true then if (lg_cmp (S.cl x3 (zix (0 : Int32))) ((r163.1).toInt64)) = 0 then k28 ((x5 + (4 : Int32)), S.cl, S.cd, r163.2) else some ((0 : Int32), S.cl, S.cd, r163.2) else none) else k28 ((x5 + (4 : Int32)), S.cl, S.cd, r163.2)) else some ((0 : Int32), S.cl, S.cd, r163.2) else none else none else none
theorem m_L_law_j1039 {E : ZE} {S : Zs} (hW : zWF S) (w : Zw) (x0 : Nat) (hx0 : x0 = 0) (x1 : Nat) (hx1 : zObj S x1 7) (x2 : Nat) (hx2 : zObj S x2 8) (x3 : Nat) (hx3 : zArr S x3 3) (x4 : Nat) (hx4 : zArr S x4 4) (x5 : Int32) (y0 : Int32) (L : Nat) (xs : Nat → Int32) (hL9 : E.L = L) (hx9 : E.xs = xs) (kn qn : Nat) (k28 : (Int32 × (Nat → Nat → Int64) × (Nat → Nat → UInt64) × Zw) → Option (Int32 × (Nat → Nat → Int64) × (Nat → Nat → UInt64) × Zw)) (hk28 : ∀ a : Int32 × (Nat → Nat → Int64) × (Nat → Nat → UInt64) × Zw, zOk (E, i_L_law, 100) kn qn (zSc S a.2.1 a.2.2.1) a.2.2.2 28 [(0, .ref x0), (1, .ref x1), (2, .ref x2), (3, .ref x3), (4, .ref x4), (5, .int a.1)] [] (emS eI S) (k28 a)) : zOk (E, i_L_law, 100) kn qn S w 1039 [(0, .ref x0), (1, .ref x1), (2, .ref x2), (3, .ref x3), (4, .ref x4), (5, .int x5)] [.int y0] (emS eI S) (f_L_law_j1039 S L xs w x0 x1 x2 x3 x4 x5 y0 k28) := by
  unfold f_L_law_j1039
  refine z_istore (lv' := [(6, .int y0), (0, .ref x0), (1, .ref x1), (2, .ref x2), (3, .ref x3), (4, .ref x4), (5, .int x5)]) dL_law_1039 (Nat.le_of_ble_eq_true rfl) rfl (z_aload_n 3 dL_law_1041 rfl (z_aload_n 1 dL_law_1042 rfl (z_iload 6 dL_law_1043 rfl (z_iconst dL_law_1045 zi_1 (z_iadd dL_law_1046 ?_)))))
  refine z_chk (fun c160 => ?_)
  refine z_sldE hL9 hx9 hx0 c160 dL_law_1047 (z_i2l (v := ((xs (zix (x5 + (1 : Int32))))).toInt64) dL_law_1048 rfl (z_bipush dL_law_1049 zb_32 (z_lshl (v := (zlshl (((xs (zix (x5 + (1 : Int32))))).toInt64) (32 : Int32))) dL_law_1051 rfl (z_aload_n 1 dL_law_1052 rfl (z_iload 6 dL_law_1053 rfl ?_)))))
  refine z_iconst dL_law_1055 zi_2 (z_iadd dL_law_1056 ?_)
  refine z_chk (fun c161 => ?_)
  refine z_sldE hL9 hx9 hx0 c161 dL_law_1057 (z_i2l (v := ((xs (zix (x5 + (2 : Int32))))).toInt64) dL_law_1058 rfl (z_ldc2 dL_law_1059 gw1510 (z_land dL_law_1062 (z_lor dL_law_1063 (z_aload_n 1 dL_law_1064 rfl ?_)))))
  refine z_iload 6 dL_law_1065 rfl (z_iconst dL_law_1067 zi_3 (z_iadd dL_law_1068 ?_))
  refine z_chk (fun c162 => ?_)
  refine z_sldE hL9 hx9 hx0 c162 dL_law_1069 ?_
  refine z_bind (fun r163 hb164 => ?_)
  refine z_callV (kc' := kn) (ks' := qn) (v := (some (.int r163.1))) (S1 := S) (w1 := r163.2) (st := []) [.long ((zlshl (((xs (zix (x5 + (1 : Int32))))).toInt64) (32 : Int32)) ||| (((xs (zix (x5 + (2 : Int32))))).toInt64 &&& (4294967295 : Int64))), .int (xs (zix (x5 + (3 : Int32))))] (m_X8_bestCar hW w x2 hx2 ((zlshl (((xs (zix (x5 + (1 : Int32))))).toInt64) (32 : Int32)) ||| (((xs (zix (x5 + (2 : Int32))))).toInt64 &&& (4294967295 : Int64))) (xs (zix (x5 + (3 : Int32)))) r163 hb164) zc8 hx2 zy_X8_bestCar gw1407 gw1408 gw1406 (Nat.le_of_ble_eq_true rfl) (Nat.le_of_ble_eq_true rfl) (Nat.le_of_eq (Nat.zero_add _)) (Nat.le_of_eq (Nat.zero_add _)) (zal hW) rfl dL_law_1070 (z_at 1073 _ [.int r163.1] rfl rfl rfl ?_)
  refine z_istore (lv' := [(7, .int r163.1), (6, .int y0), (0, .ref x0), (1, .ref x1), (2, .ref x2), (3, .ref x3), (4, .ref x4), (5, .int x5)]) dL_law_1073 (Nat.le_of_ble_eq_true rfl) rfl (z_aload_n 4 dL_law_1075 rfl ?_)
  refine z_callV (kc' := kn) (ks' := qn) (v := (some (.int (f_X8_thrown S r163.2 x2)))) (S1 := S) (w1 := r163.2) (st := []) [] (m_X8_thrown hW r163.2 x2 hx2) zc8 hx2 zy_X8_thrown gw1098 gw1099 gw1097 (Nat.le_of_ble_eq_true rfl) (Nat.le_of_ble_eq_true rfl) (Nat.le_of_eq (Nat.zero_add _)) (Nat.le_of_eq (Nat.zero_add _)) (zal hW) rfl dL_law_1076 (z_at 1079 _ [.int (f_X8_thrown S r163.2 x2)] rfl rfl rfl ?_)
  refine z_iload 1 dL_law_1079 rfl ?_
  refine z_icmp_eq 1086 dL_law_1081 rfl (fun q165 => ?_) (fun q165 => ?_)
  · refine z_iload 1 dL_law_1086 rfl ?_
    refine z_if_ne 1103 dL_law_1088 rfl (fun q166 => ?_) (fun q166 => ?_)
    · refine z_goto 1970 dL_law_1103 rfl (z_iinc (v := (x5 + (4 : Int32))) (lv' := [(5, .int (x5 + (4 : Int32))), (7, .int r163.1), (6, .int y0), (0, .ref x0), (1, .ref x1), (2, .ref x2), (3, .ref x3), (4, .ref x4)]) 7 dL_law_1970 rfl (zi_inc _ zi_4) (Nat.le_of_ble_eq_true rfl) rfl (z_goto 28 dL_law_1973 rfl ?_))
      refine z_sub (lv' := [(0, .ref x0), (1, .ref x1), (2, .ref x2), (3, .ref x3), (4, .ref x4), (5, .int (x5 + (4 : Int32)))]) [3, 4, 5, 6, 7, 0] rfl ?_
      refine z_pc (pc' := 28) rfl ?_
      exact hk28 ((x5 + (4 : Int32)), S.cl, S.cd, r163.2)
    · refine z_aload_n 5 dL_law_1091 rfl (z_iconst dL_law_1092 zi_0 ?_)
      refine z_chk (fun c167 => ?_)
      refine z_lald hx3 c167 dL_law_1093 (z_iload 0 dL_law_1094 rfl (z_i2l (v := (r163.1).toInt64) dL_law_1096 rfl (z_lcmp dL_law_1097 ?_)))
      refine z_if_eq 1103 dL_law_1098 rfl (fun q168 => ?_) (fun q168 => ?_)
      · refine z_goto 1970 dL_law_1103 rfl (z_iinc (v := (x5 + (4 : Int32))) (lv' := [(5, .int (x5 + (4 : Int32))), (7, .int r163.1), (6, .int y0), (0, .ref x0), (1, .ref x1), (2, .ref x2), (3, .ref x3), (4, .ref x4)]) 7 dL_law_1970 rfl (zi_inc _ zi_4) (Nat.le_of_ble_eq_true rfl) rfl (z_goto 28 dL_law_1973 rfl ?_))
        refine z_sub (lv' := [(0, .ref x0), (1, .ref x1), (2, .ref x2), (3, .ref x3), (4, .ref x4), (5, .int (x5 + (4 : Int32)))]) [3, 4, 5, 6, 7, 0] rfl ?_
        refine z_pc (pc' := 28) rfl ?_
        exact hk28 ((x5 + (4 : Int32)), S.cl, S.cd, r163.2)
      · refine z_iconst dL_law_1101 zi_0 ?_
        exact z_zret zemS rfl rfl dL_law_1102
  · refine z_iconst dL_law_1084 zi_0 ?_
    exact z_zret zemS rfl rfl dL_law_1085

def f_L_law_j1133 (S : Zs) (L : Nat) (xs : Nat → Int32) (w : Zw) (x0 : Nat) (x1 : Nat) (x2 : Nat) (x3 : Nat) (x4 : Nat) (x5 : Int32) (y0 : Int32) (k28 : (Int32 × (Nat → Nat → Int64) × (Nat → Nat → UInt64) × Zw) → Option (Int32 × (Nat → Nat → Int64) × (Nat → Nat → UInt64) × Zw)) : Option (Int32 × (Nat → Nat → Int64) × (Nat → Nat → UInt64) × Zw) :=
  if zin (x5 + (1 : Int32)) L = true then if zin (x5 + (2 : Int32)) L = true then (f_X8_plainMoves S w x2 ((zlshl (((xs (zix (x5 + (1 : Int32))))).toInt64) (32 : Int32)) ||| (((xs (zix (x5 + (2 : Int32))))).toInt64 &&& (4294967295 : Int64)))).bind fun r176 => if (f_X8_thrown S r176.2 x2) = y0 then (if y0 = 0 then (if zin (0 : Int32) (zlen S x3) = true then if (lg_cmp (S.cl x3 (zix (0 : Int32))) ((r176.1).toInt64)) = 0 then k28 ((x5 + (4 : Int32)), S.cl, S.cd, r176.2) else some ((0 : Int32), S.cl, S.cd, r176.2) else none) else k28 ((x5 + (4 : Int32)), S.cl, S.cd, r176.2)) else some ((0 : Int32), S.cl, S.cd, r176.2) else none else none
theorem m_L_law_j1133 {E : ZE} {S : Zs} (hW : zWF S) (w : Zw) (x0 : Nat) (hx0 : x0 = 0) (x1 : Nat) (hx1 : zObj S x1 7) (x2 : Nat) (hx2 : zObj S x2 8) (x3 : Nat) (hx3 : zArr S x3 3) (x4 : Nat) (hx4 : zArr S x4 4) (x5 : Int32) (y0 : Int32) (L : Nat) (xs : Nat → Int32) (hL9 : E.L = L) (hx9 : E.xs = xs) (kn qn : Nat) (k28 : (Int32 × (Nat → Nat → Int64) × (Nat → Nat → UInt64) × Zw) → Option (Int32 × (Nat → Nat → Int64) × (Nat → Nat → UInt64) × Zw)) (hk28 : ∀ a : Int32 × (Nat → Nat → Int64) × (Nat → Nat → UInt64) × Zw, zOk (E, i_L_law, 100) kn qn (zSc S a.2.1 a.2.2.1) a.2.2.2 28 [(0, .ref x0), (1, .ref x1), (2, .ref x2), (3, .ref x3), (4, .ref x4), (5, .int a.1)] [] (emS eI S) (k28 a)) : zOk (E, i_L_law, 100) kn qn S w 1133 [(0, .ref x0), (1, .ref x1), (2, .ref x2), (3, .ref x3), (4, .ref x4), (5, .int x5)] [.int y0] (emS eI S) (f_L_law_j1133 S L xs w x0 x1 x2 x3 x4 x5 y0 k28) := by
  unfold f_L_law_j1133
  refine z_istore (lv' := [(6, .int y0), (0, .ref x0), (1, .ref x1), (2, .ref x2), (3, .ref x3), (4, .ref x4), (5, .int x5)]) dL_law_1133 (Nat.le_of_ble_eq_true rfl) rfl (z_aload_n 3 dL_law_1135 rfl (z_aload_n 1 dL_law_1136 rfl (z_iload 6 dL_law_1137 rfl (z_iconst dL_law_1139 zi_1 (z_iadd dL_law_1140 ?_)))))
  refine z_chk (fun c174 => ?_)
  refine z_sldE hL9 hx9 hx0 c174 dL_law_1141 (z_i2l (v := ((xs (zix (x5 + (1 : Int32))))).toInt64) dL_law_1142 rfl (z_bipush dL_law_1143 zb_32 (z_lshl (v := (zlshl (((xs (zix (x5 + (1 : Int32))))).toInt64) (32 : Int32))) dL_law_1145 rfl (z_aload_n 1 dL_law_1146 rfl (z_iload 6 dL_law_1147 rfl ?_)))))
  refine z_iconst dL_law_1149 zi_2 (z_iadd dL_law_1150 ?_)
  refine z_chk (fun c175 => ?_)
  refine z_sldE hL9 hx9 hx0 c175 dL_law_1151 (z_i2l (v := ((xs (zix (x5 + (2 : Int32))))).toInt64) dL_law_1152 rfl (z_ldc2 dL_law_1153 gw1510 (z_land dL_law_1156 (z_lor dL_law_1157 ?_))))
  refine z_bind (fun r176 hb177 => ?_)
  refine z_callV (kc' := kn) (ks' := qn) (v := (some (.int r176.1))) (S1 := S) (w1 := r176.2) (st := []) [.long ((zlshl (((xs (zix (x5 + (1 : Int32))))).toInt64) (32 : Int32)) ||| (((xs (zix (x5 + (2 : Int32))))).toInt64 &&& (4294967295 : Int64)))] (m_X8_plainMoves hW w x2 hx2 ((zlshl (((xs (zix (x5 + (1 : Int32))))).toInt64) (32 : Int32)) ||| (((xs (zix (x5 + (2 : Int32))))).toInt64 &&& (4294967295 : Int64))) r176 hb177) zc8 hx2 zy_X8_plainMoves gw1411 gw1412 gw1410 (Nat.le_of_ble_eq_true rfl) (Nat.le_of_ble_eq_true rfl) (Nat.le_of_eq (Nat.zero_add _)) (Nat.le_of_eq (Nat.zero_add _)) (zal hW) rfl dL_law_1158 (z_at 1161 _ [.int r176.1] rfl rfl rfl ?_)
  refine z_istore (lv' := [(7, .int r176.1), (6, .int y0), (0, .ref x0), (1, .ref x1), (2, .ref x2), (3, .ref x3), (4, .ref x4), (5, .int x5)]) dL_law_1161 (Nat.le_of_ble_eq_true rfl) rfl (z_aload_n 4 dL_law_1163 rfl ?_)
  refine z_callV (kc' := kn) (ks' := qn) (v := (some (.int (f_X8_thrown S r176.2 x2)))) (S1 := S) (w1 := r176.2) (st := []) [] (m_X8_thrown hW r176.2 x2 hx2) zc8 hx2 zy_X8_thrown gw1098 gw1099 gw1097 (Nat.le_of_ble_eq_true rfl) (Nat.le_of_ble_eq_true rfl) (Nat.le_of_eq (Nat.zero_add _)) (Nat.le_of_eq (Nat.zero_add _)) (zal hW) rfl dL_law_1164 (z_at 1167 _ [.int (f_X8_thrown S r176.2 x2)] rfl rfl rfl ?_)
  refine z_iload 1 dL_law_1167 rfl ?_
  refine z_icmp_eq 1174 dL_law_1169 rfl (fun q178 => ?_) (fun q178 => ?_)
  · refine z_iload 1 dL_law_1174 rfl ?_
    refine z_if_ne 1191 dL_law_1176 rfl (fun q179 => ?_) (fun q179 => ?_)
    · refine z_goto 1970 dL_law_1191 rfl (z_iinc (v := (x5 + (4 : Int32))) (lv' := [(5, .int (x5 + (4 : Int32))), (7, .int r176.1), (6, .int y0), (0, .ref x0), (1, .ref x1), (2, .ref x2), (3, .ref x3), (4, .ref x4)]) 7 dL_law_1970 rfl (zi_inc _ zi_4) (Nat.le_of_ble_eq_true rfl) rfl (z_goto 28 dL_law_1973 rfl ?_))
      refine z_sub (lv' := [(0, .ref x0), (1, .ref x1), (2, .ref x2), (3, .ref x3), (4, .ref x4), (5, .int (x5 + (4 : Int32)))]) [3, 4, 5, 6, 7, 0] rfl ?_
      refine z_pc (pc' := 28) rfl ?_
      exact hk28 ((x5 + (4 : Int32)), S.cl, S.cd, r176.2)
    · refine z_aload_n 5 dL_law_1179 rfl (z_iconst dL_law_1180 zi_0 ?_)
      refine z_chk (fun c180 => ?_)
      refine z_lald hx3 c180 dL_law_1181 (z_iload 0 dL_law_1182 rfl (z_i2l (v := (r176.1).toInt64) dL_law_1184 rfl (z_lcmp dL_law_1185 ?_)))
      refine z_if_eq 1191 dL_law_1186 rfl (fun q181 => ?_) (fun q181 => ?_)
      · refine z_goto 1970 dL_law_1191 rfl (z_iinc (v := (x5 + (4 : Int32))) (lv' := [(5, .int (x5 + (4 : Int32))), (7, .int r176.1), (6, .int y0), (0, .ref x0), (1, .ref x1), (2, .ref x2), (3, .ref x3), (4, .ref x4)]) 7 dL_law_1970 rfl (zi_inc _ zi_4) (Nat.le_of_ble_eq_true rfl) rfl (z_goto 28 dL_law_1973 rfl ?_))
        refine z_sub (lv' := [(0, .ref x0), (1, .ref x1), (2, .ref x2), (3, .ref x3), (4, .ref x4), (5, .int (x5 + (4 : Int32)))]) [3, 4, 5, 6, 7, 0] rfl ?_
        refine z_pc (pc' := 28) rfl ?_
        exact hk28 ((x5 + (4 : Int32)), S.cl, S.cd, r176.2)
      · refine z_iconst dL_law_1189 zi_0 ?_
        exact z_zret zemS rfl rfl dL_law_1190
  · refine z_iconst dL_law_1172 zi_0 ?_
    exact z_zret zemS rfl rfl dL_law_1173

def f_L_law_j1221 (S : Zs) (L : Nat) (xs : Nat → Int32) (w : Zw) (x0 : Nat) (x1 : Nat) (x2 : Nat) (x3 : Nat) (x4 : Nat) (x5 : Int32) (y0 : Int32) (k28 : (Int32 × (Nat → Nat → Int64) × (Nat → Nat → UInt64) × Zw) → Option (Int32 × (Nat → Nat → Int64) × (Nat → Nat → UInt64) × Zw)) : Option (Int32 × (Nat → Nat → Int64) × (Nat → Nat → UInt64) × Zw) :=
  if zin (x5 + (1 : Int32)) L = true then if zin (x5 + (2 : Int32)) L = true then (f_X8_retrieveAll S w x2 ((zlshl (((xs (zix (x5 + (1 : Int32))))).toInt64) (32 : Int32)) ||| (((xs (zix (x5 + (2 : Int32))))).toInt64 &&& (4294967295 : Int64)))).bind fun r189 => if (f_X8_thrown S r189.2 x2) = y0 then (if y0 = 0 then (if zin (0 : Int32) (zlen S x3) = true then if (lg_cmp (S.cl x3 (zix (0 : Int32))) ((r189.1).toInt64)) = 0 then k28 ((x5 + (4 : Int32)), S.cl, S.cd, r189.2) else some ((0 : Int32), S.cl, S.cd, r189.2) else none) else k28 ((x5 + (4 : Int32)), S.cl, S.cd, r189.2)) else some ((0 : Int32), S.cl, S.cd, r189.2) else none else none
theorem m_L_law_j1221 {E : ZE} {S : Zs} (hW : zWF S) (w : Zw) (x0 : Nat) (hx0 : x0 = 0) (x1 : Nat) (hx1 : zObj S x1 7) (x2 : Nat) (hx2 : zObj S x2 8) (x3 : Nat) (hx3 : zArr S x3 3) (x4 : Nat) (hx4 : zArr S x4 4) (x5 : Int32) (y0 : Int32) (L : Nat) (xs : Nat → Int32) (hL9 : E.L = L) (hx9 : E.xs = xs) (kn qn : Nat) (k28 : (Int32 × (Nat → Nat → Int64) × (Nat → Nat → UInt64) × Zw) → Option (Int32 × (Nat → Nat → Int64) × (Nat → Nat → UInt64) × Zw)) (hk28 : ∀ a : Int32 × (Nat → Nat → Int64) × (Nat → Nat → UInt64) × Zw, zOk (E, i_L_law, 100) kn qn (zSc S a.2.1 a.2.2.1) a.2.2.2 28 [(0, .ref x0), (1, .ref x1), (2, .ref x2), (3, .ref x3), (4, .ref x4), (5, .int a.1)] [] (emS eI S) (k28 a)) : zOk (E, i_L_law, 100) kn qn S w 1221 [(0, .ref x0), (1, .ref x1), (2, .ref x2), (3, .ref x3), (4, .ref x4), (5, .int x5)] [.int y0] (emS eI S) (f_L_law_j1221 S L xs w x0 x1 x2 x3 x4 x5 y0 k28) := by
  unfold f_L_law_j1221
  refine z_istore (lv' := [(6, .int y0), (0, .ref x0), (1, .ref x1), (2, .ref x2), (3, .ref x3), (4, .ref x4), (5, .int x5)]) dL_law_1221 (Nat.le_of_ble_eq_true rfl) rfl (z_aload_n 3 dL_law_1223 rfl (z_aload_n 1 dL_law_1224 rfl (z_iload 6 dL_law_1225 rfl (z_iconst dL_law_1227 zi_1 (z_iadd dL_law_1228 ?_)))))
  refine z_chk (fun c187 => ?_)
  refine z_sldE hL9 hx9 hx0 c187 dL_law_1229 (z_i2l (v := ((xs (zix (x5 + (1 : Int32))))).toInt64) dL_law_1230 rfl (z_bipush dL_law_1231 zb_32 (z_lshl (v := (zlshl (((xs (zix (x5 + (1 : Int32))))).toInt64) (32 : Int32))) dL_law_1233 rfl (z_aload_n 1 dL_law_1234 rfl (z_iload 6 dL_law_1235 rfl ?_)))))
  refine z_iconst dL_law_1237 zi_2 (z_iadd dL_law_1238 ?_)
  refine z_chk (fun c188 => ?_)
  refine z_sldE hL9 hx9 hx0 c188 dL_law_1239 (z_i2l (v := ((xs (zix (x5 + (2 : Int32))))).toInt64) dL_law_1240 rfl (z_ldc2 dL_law_1241 gw1510 (z_land dL_law_1244 (z_lor dL_law_1245 ?_))))
  refine z_bind (fun r189 hb190 => ?_)
  refine z_callV (kc' := kn) (ks' := qn) (v := (some (.int r189.1))) (S1 := S) (w1 := r189.2) (st := []) [.long ((zlshl (((xs (zix (x5 + (1 : Int32))))).toInt64) (32 : Int32)) ||| (((xs (zix (x5 + (2 : Int32))))).toInt64 &&& (4294967295 : Int64)))] (m_X8_retrieveAll hW w x2 hx2 ((zlshl (((xs (zix (x5 + (1 : Int32))))).toInt64) (32 : Int32)) ||| (((xs (zix (x5 + (2 : Int32))))).toInt64 &&& (4294967295 : Int64))) r189 hb190) zc8 hx2 zy_X8_retrieveAll gw1415 gw1416 gw1414 (Nat.le_of_ble_eq_true rfl) (Nat.le_of_ble_eq_true rfl) (Nat.le_of_eq (Nat.zero_add _)) (Nat.le_of_eq (Nat.zero_add _)) (zal hW) rfl dL_law_1246 (z_at 1249 _ [.int r189.1] rfl rfl rfl ?_)
  refine z_istore (lv' := [(7, .int r189.1), (6, .int y0), (0, .ref x0), (1, .ref x1), (2, .ref x2), (3, .ref x3), (4, .ref x4), (5, .int x5)]) dL_law_1249 (Nat.le_of_ble_eq_true rfl) rfl (z_aload_n 4 dL_law_1251 rfl ?_)
  refine z_callV (kc' := kn) (ks' := qn) (v := (some (.int (f_X8_thrown S r189.2 x2)))) (S1 := S) (w1 := r189.2) (st := []) [] (m_X8_thrown hW r189.2 x2 hx2) zc8 hx2 zy_X8_thrown gw1098 gw1099 gw1097 (Nat.le_of_ble_eq_true rfl) (Nat.le_of_ble_eq_true rfl) (Nat.le_of_eq (Nat.zero_add _)) (Nat.le_of_eq (Nat.zero_add _)) (zal hW) rfl dL_law_1252 (z_at 1255 _ [.int (f_X8_thrown S r189.2 x2)] rfl rfl rfl ?_)
  refine z_iload 1 dL_law_1255 rfl ?_
  refine z_icmp_eq 1262 dL_law_1257 rfl (fun q191 => ?_) (fun q191 => ?_)
  · refine z_iload 1 dL_law_1262 rfl ?_
    refine z_if_ne 1279 dL_law_1264 rfl (fun q192 => ?_) (fun q192 => ?_)
    · refine z_goto 1970 dL_law_1279 rfl (z_iinc (v := (x5 + (4 : Int32))) (lv' := [(5, .int (x5 + (4 : Int32))), (7, .int r189.1), (6, .int y0), (0, .ref x0), (1, .ref x1), (2, .ref x2), (3, .ref x3), (4, .ref x4)]) 7 dL_law_1970 rfl (zi_inc _ zi_4) (Nat.le_of_ble_eq_true rfl) rfl (z_goto 28 dL_law_1973 rfl ?_))
      refine z_sub (lv' := [(0, .ref x0), (1, .ref x1), (2, .ref x2), (3, .ref x3), (4, .ref x4), (5, .int (x5 + (4 : Int32)))]) [3, 4, 5, 6, 7, 0] rfl ?_
      refine z_pc (pc' := 28) rfl ?_
      exact hk28 ((x5 + (4 : Int32)), S.cl, S.cd, r189.2)
    · refine z_aload_n 5 dL_law_1267 rfl (z_iconst dL_law_1268 zi_0 ?_)
      refine z_chk (fun c193 => ?_)
      refine z_lald hx3 c193 dL_law_1269 (z_iload 0 dL_law_1270 rfl (z_i2l (v := (r189.1).toInt64) dL_law_1272 rfl (z_lcmp dL_law_1273 ?_)))
      refine z_if_eq 1279 dL_law_1274 rfl (fun q194 => ?_) (fun q194 => ?_)
      · refine z_goto 1970 dL_law_1279 rfl (z_iinc (v := (x5 + (4 : Int32))) (lv' := [(5, .int (x5 + (4 : Int32))), (7, .int r189.1), (6, .int y0), (0, .ref x0), (1, .ref x1), (2, .ref x2), (3, .ref x3), (4, .ref x4)]) 7 dL_law_1970 rfl (zi_inc _ zi_4) (Nat.le_of_ble_eq_true rfl) rfl (z_goto 28 dL_law_1973 rfl ?_))
        refine z_sub (lv' := [(0, .ref x0), (1, .ref x1), (2, .ref x2), (3, .ref x3), (4, .ref x4), (5, .int (x5 + (4 : Int32)))]) [3, 4, 5, 6, 7, 0] rfl ?_
        refine z_pc (pc' := 28) rfl ?_
        exact hk28 ((x5 + (4 : Int32)), S.cl, S.cd, r189.2)
      · refine z_iconst dL_law_1277 zi_0 ?_
        exact z_zret zemS rfl rfl dL_law_1278
  · refine z_iconst dL_law_1260 zi_0 ?_
    exact z_zret zemS rfl rfl dL_law_1261

def f_L_law_j1306 (S : Zs) (L : Nat) (xs : Nat → Int32) (w : Zw) (x0 : Nat) (x1 : Nat) (x2 : Nat) (x3 : Nat) (x4 : Nat) (x5 : Int32) (y0 : Int32) (k28 : (Int32 × (Nat → Nat → Int64) × (Nat → Nat → UInt64) × Zw) → Option (Int32 × (Nat → Nat → Int64) × (Nat → Nat → UInt64) × Zw)) : Option (Int32 × (Nat → Nat → Int64) × (Nat → Nat → UInt64) × Zw) :=
  if zin (x5 + (1 : Int32)) L = true then (f_X8_pass S w x2 (xs (zix (x5 + (1 : Int32))))).bind fun r206 => if (f_X8_thrown S r206.2 x2) = y0 then (if y0 = 0 then (if zin (0 : Int32) (zlen S x3) = true then if (lg_cmp (S.cl x3 (zix (0 : Int32))) ((r206.1).toInt64)) = 0 then k28 ((x5 + (4 : Int32)), S.cl, S.cd, r206.2) else some ((0 : Int32), S.cl, S.cd, r206.2) else none) else k28 ((x5 + (4 : Int32)), S.cl, S.cd, r206.2)) else some ((0 : Int32), S.cl, S.cd, r206.2) else none
theorem m_L_law_j1306 {E : ZE} {S : Zs} (hW : zWF S) (w : Zw) (x0 : Nat) (hx0 : x0 = 0) (x1 : Nat) (hx1 : zObj S x1 7) (x2 : Nat) (hx2 : zObj S x2 8) (x3 : Nat) (hx3 : zArr S x3 3) (x4 : Nat) (hx4 : zArr S x4 4) (x5 : Int32) (y0 : Int32) (L : Nat) (xs : Nat → Int32) (hL9 : E.L = L) (hx9 : E.xs = xs) (kn qn : Nat) (k28 : (Int32 × (Nat → Nat → Int64) × (Nat → Nat → UInt64) × Zw) → Option (Int32 × (Nat → Nat → Int64) × (Nat → Nat → UInt64) × Zw)) (hk28 : ∀ a : Int32 × (Nat → Nat → Int64) × (Nat → Nat → UInt64) × Zw, zOk (E, i_L_law, 100) kn qn (zSc S a.2.1 a.2.2.1) a.2.2.2 28 [(0, .ref x0), (1, .ref x1), (2, .ref x2), (3, .ref x3), (4, .ref x4), (5, .int a.1)] [] (emS eI S) (k28 a)) : zOk (E, i_L_law, 100) kn qn S w 1306 [(0, .ref x0), (1, .ref x1), (2, .ref x2), (3, .ref x3), (4, .ref x4), (5, .int x5)] [.int y0] (emS eI S) (f_L_law_j1306 S L xs w x0 x1 x2 x3 x4 x5 y0 k28) := by
  unfold f_L_law_j1306
  refine z_istore (lv' := [(6, .int y0), (0, .ref x0), (1, .ref x1), (2, .ref x2), (3, .ref x3), (4, .ref x4), (5, .int x5)]) dL_law_1306 (Nat.le_of_ble_eq_true rfl) rfl (z_aload_n 3 dL_law_1308 rfl (z_aload_n 1 dL_law_1309 rfl (z_iload 6 dL_law_1310 rfl (z_iconst dL_law_1312 zi_1 (z_iadd dL_law_1313 ?_)))))
  refine z_chk (fun c205 => ?_)
  refine z_sldE hL9 hx9 hx0 c205 dL_law_1314 ?_
  refine z_bind (fun r206 hb207 => ?_)
  refine z_callV (kc' := kn) (ks' := qn) (v := (some (.int r206.1))) (S1 := S) (w1 := r206.2) (st := []) [.int (xs (zix (x5 + (1 : Int32))))] (m_X8_pass hW w x2 hx2 (xs (zix (x5 + (1 : Int32)))) r206 hb207) zc8 hx2 zy_X8_pass gw1431 gw1432 gw1430 (Nat.le_of_ble_eq_true rfl) (Nat.le_of_ble_eq_true rfl) (Nat.le_of_eq (Nat.zero_add _)) (Nat.le_of_eq (Nat.zero_add _)) (zal hW) rfl dL_law_1315 (z_at 1318 _ [.int r206.1] rfl rfl rfl ?_)
  refine z_istore (lv' := [(7, .int r206.1), (6, .int y0), (0, .ref x0), (1, .ref x1), (2, .ref x2), (3, .ref x3), (4, .ref x4), (5, .int x5)]) dL_law_1318 (Nat.le_of_ble_eq_true rfl) rfl (z_aload_n 4 dL_law_1320 rfl ?_)
  refine z_callV (kc' := kn) (ks' := qn) (v := (some (.int (f_X8_thrown S r206.2 x2)))) (S1 := S) (w1 := r206.2) (st := []) [] (m_X8_thrown hW r206.2 x2 hx2) zc8 hx2 zy_X8_thrown gw1098 gw1099 gw1097 (Nat.le_of_ble_eq_true rfl) (Nat.le_of_ble_eq_true rfl) (Nat.le_of_eq (Nat.zero_add _)) (Nat.le_of_eq (Nat.zero_add _)) (zal hW) rfl dL_law_1321 (z_at 1324 _ [.int (f_X8_thrown S r206.2 x2)] rfl rfl rfl ?_)
  refine z_iload 1 dL_law_1324 rfl ?_
  refine z_icmp_eq 1331 dL_law_1326 rfl (fun q208 => ?_) (fun q208 => ?_)
  · refine z_iload 1 dL_law_1331 rfl ?_
    refine z_if_ne 1348 dL_law_1333 rfl (fun q209 => ?_) (fun q209 => ?_)
    · refine z_goto 1970 dL_law_1348 rfl (z_iinc (v := (x5 + (4 : Int32))) (lv' := [(5, .int (x5 + (4 : Int32))), (7, .int r206.1), (6, .int y0), (0, .ref x0), (1, .ref x1), (2, .ref x2), (3, .ref x3), (4, .ref x4)]) 7 dL_law_1970 rfl (zi_inc _ zi_4) (Nat.le_of_ble_eq_true rfl) rfl (z_goto 28 dL_law_1973 rfl ?_))
      refine z_sub (lv' := [(0, .ref x0), (1, .ref x1), (2, .ref x2), (3, .ref x3), (4, .ref x4), (5, .int (x5 + (4 : Int32)))]) [3, 4, 5, 6, 7, 0] rfl ?_
      refine z_pc (pc' := 28) rfl ?_
      exact hk28 ((x5 + (4 : Int32)), S.cl, S.cd, r206.2)
    · refine z_aload_n 5 dL_law_1336 rfl (z_iconst dL_law_1337 zi_0 ?_)
      refine z_chk (fun c210 => ?_)
      refine z_lald hx3 c210 dL_law_1338 (z_iload 0 dL_law_1339 rfl (z_i2l (v := (r206.1).toInt64) dL_law_1341 rfl (z_lcmp dL_law_1342 ?_)))
      refine z_if_eq 1348 dL_law_1343 rfl (fun q211 => ?_) (fun q211 => ?_)
      · refine z_goto 1970 dL_law_1348 rfl (z_iinc (v := (x5 + (4 : Int32))) (lv' := [(5, .int (x5 + (4 : Int32))), (7, .int r206.1), (6, .int y0), (0, .ref x0), (1, .ref x1), (2, .ref x2), (3, .ref x3), (4, .ref x4)]) 7 dL_law_1970 rfl (zi_inc _ zi_4) (Nat.le_of_ble_eq_true rfl) rfl (z_goto 28 dL_law_1973 rfl ?_))
        refine z_sub (lv' := [(0, .ref x0), (1, .ref x1), (2, .ref x2), (3, .ref x3), (4, .ref x4), (5, .int (x5 + (4 : Int32)))]) [3, 4, 5, 6, 7, 0] rfl ?_
        refine z_pc (pc' := 28) rfl ?_
        exact hk28 ((x5 + (4 : Int32)), S.cl, S.cd, r206.2)
      · refine z_iconst dL_law_1346 zi_0 ?_
        exact z_zret zemS rfl rfl dL_law_1347
  · refine z_iconst dL_law_1329 zi_0 ?_
    exact z_zret zemS rfl rfl dL_law_1330

def f_L_law_j1368 (S : Zs) (L : Nat) (xs : Nat → Int32) (w : Zw) (x0 : Nat) (x1 : Nat) (x2 : Nat) (x3 : Nat) (x4 : Nat) (x5 : Int32) (y0 : Int32) (k28 : (Int32 × (Nat → Nat → Int64) × (Nat → Nat → UInt64) × Zw) → Option (Int32 × (Nat → Nat → Int64) × (Nat → Nat → UInt64) × Zw)) : Option (Int32 × (Nat → Nat → Int64) × (Nat → Nat → UInt64) × Zw) :=
  if zin (x5 + (1 : Int32)) L = true then if zin (x5 + (2 : Int32)) L = true then (f_X8_machine S w x2 (xs (zix (x5 + (1 : Int32)))) (xs (zix (x5 + (2 : Int32))))).bind fun r219 => if (f_X8_thrown S r219.2 x2) = y0 then (if y0 = 0 then (if zin (0 : Int32) (zlen S x3) = true then if (lg_cmp (S.cl x3 (zix (0 : Int32))) ((r219.1).toInt64)) = 0 then k28 ((x5 + (4 : Int32)), S.cl, S.cd, r219.2) else some ((0 : Int32), S.cl, S.cd, r219.2) else none) else k28 ((x5 + (4 : Int32)), S.cl, S.cd, r219.2)) else some ((0 : Int32), S.cl, S.cd, r219.2) else none else none
theorem m_L_law_j1368 {E : ZE} {S : Zs} (hW : zWF S) (w : Zw) (x0 : Nat) (hx0 : x0 = 0) (x1 : Nat) (hx1 : zObj S x1 7) (x2 : Nat) (hx2 : zObj S x2 8) (x3 : Nat) (hx3 : zArr S x3 3) (x4 : Nat) (hx4 : zArr S x4 4) (x5 : Int32) (y0 : Int32) (L : Nat) (xs : Nat → Int32) (hL9 : E.L = L) (hx9 : E.xs = xs) (kn qn : Nat) (k28 : (Int32 × (Nat → Nat → Int64) × (Nat → Nat → UInt64) × Zw) → Option (Int32 × (Nat → Nat → Int64) × (Nat → Nat → UInt64) × Zw)) (hk28 : ∀ a : Int32 × (Nat → Nat → Int64) × (Nat → Nat → UInt64) × Zw, zOk (E, i_L_law, 100) kn qn (zSc S a.2.1 a.2.2.1) a.2.2.2 28 [(0, .ref x0), (1, .ref x1), (2, .ref x2), (3, .ref x3), (4, .ref x4), (5, .int a.1)] [] (emS eI S) (k28 a)) : zOk (E, i_L_law, 100) kn qn S w 1368 [(0, .ref x0), (1, .ref x1), (2, .ref x2), (3, .ref x3), (4, .ref x4), (5, .int x5)] [.int y0] (emS eI S) (f_L_law_j1368 S L xs w x0 x1 x2 x3 x4 x5 y0 k28) := by
  unfold f_L_law_j1368
  refine z_istore (lv' := [(6, .int y0), (0, .ref x0), (1, .ref x1), (2, .ref x2), (3, .ref x3), (4, .ref x4), (5, .int x5)]) dL_law_1368 (Nat.le_of_ble_eq_true rfl) rfl (z_aload_n 3 dL_law_1370 rfl (z_aload_n 1 dL_law_1371 rfl (z_iload 6 dL_law_1372 rfl (z_iconst dL_law_1374 zi_1 (z_iadd dL_law_1375 ?_)))))
  refine z_chk (fun c217 => ?_)
  refine z_sldE hL9 hx9 hx0 c217 dL_law_1376 (z_aload_n 1 dL_law_1377 rfl (z_iload 6 dL_law_1378 rfl (z_iconst dL_law_1380 zi_2 (z_iadd dL_law_1381 ?_))))
  refine z_chk (fun c218 => ?_)
  refine z_sldE hL9 hx9 hx0 c218 dL_law_1382 ?_
  refine z_bind (fun r219 hb220 => ?_)
  refine z_callV (kc' := kn) (ks' := qn) (v := (some (.int r219.1))) (S1 := S) (w1 := r219.2) (st := []) [.int (xs (zix (x5 + (1 : Int32)))), .int (xs (zix (x5 + (2 : Int32))))] (m_X8_machine hW w x2 hx2 (xs (zix (x5 + (1 : Int32)))) (xs (zix (x5 + (2 : Int32)))) r219 hb220) zc8 hx2 zy_X8_machine gw1439 gw1440 gw1438 (Nat.le_of_ble_eq_true rfl) (Nat.le_of_ble_eq_true rfl) (Nat.le_of_eq (Nat.zero_add _)) (Nat.le_of_eq (Nat.zero_add _)) (zal hW) rfl dL_law_1383 (z_at 1386 _ [.int r219.1] rfl rfl rfl ?_)
  refine z_istore (lv' := [(7, .int r219.1), (6, .int y0), (0, .ref x0), (1, .ref x1), (2, .ref x2), (3, .ref x3), (4, .ref x4), (5, .int x5)]) dL_law_1386 (Nat.le_of_ble_eq_true rfl) rfl (z_aload_n 4 dL_law_1388 rfl ?_)
  refine z_callV (kc' := kn) (ks' := qn) (v := (some (.int (f_X8_thrown S r219.2 x2)))) (S1 := S) (w1 := r219.2) (st := []) [] (m_X8_thrown hW r219.2 x2 hx2) zc8 hx2 zy_X8_thrown gw1098 gw1099 gw1097 (Nat.le_of_ble_eq_true rfl) (Nat.le_of_ble_eq_true rfl) (Nat.le_of_eq (Nat.zero_add _)) (Nat.le_of_eq (Nat.zero_add _)) (zal hW) rfl dL_law_1389 (z_at 1392 _ [.int (f_X8_thrown S r219.2 x2)] rfl rfl rfl ?_)
  refine z_iload 1 dL_law_1392 rfl ?_
  refine z_icmp_eq 1399 dL_law_1394 rfl (fun q221 => ?_) (fun q221 => ?_)
  · refine z_iload 1 dL_law_1399 rfl ?_
    refine z_if_ne 1416 dL_law_1401 rfl (fun q222 => ?_) (fun q222 => ?_)
    · refine z_goto 1970 dL_law_1416 rfl (z_iinc (v := (x5 + (4 : Int32))) (lv' := [(5, .int (x5 + (4 : Int32))), (7, .int r219.1), (6, .int y0), (0, .ref x0), (1, .ref x1), (2, .ref x2), (3, .ref x3), (4, .ref x4)]) 7 dL_law_1970 rfl (zi_inc _ zi_4) (Nat.le_of_ble_eq_true rfl) rfl (z_goto 28 dL_law_1973 rfl ?_))
      refine z_sub (lv' := [(0, .ref x0), (1, .ref x1), (2, .ref x2), (3, .ref x3), (4, .ref x4), (5, .int (x5 + (4 : Int32)))]) [3, 4, 5, 6, 7, 0] rfl ?_
      refine z_pc (pc' := 28) rfl ?_
      exact hk28 ((x5 + (4 : Int32)), S.cl, S.cd, r219.2)
    · refine z_aload_n 5 dL_law_1404 rfl (z_iconst dL_law_1405 zi_0 ?_)
      refine z_chk (fun c223 => ?_)
      refine z_lald hx3 c223 dL_law_1406 (z_iload 0 dL_law_1407 rfl (z_i2l (v := (r219.1).toInt64) dL_law_1409 rfl (z_lcmp dL_law_1410 ?_)))
      refine z_if_eq 1416 dL_law_1411 rfl (fun q224 => ?_) (fun q224 => ?_)
      · refine z_goto 1970 dL_law_1416 rfl (z_iinc (v := (x5 + (4 : Int32))) (lv' := [(5, .int (x5 + (4 : Int32))), (7, .int r219.1), (6, .int y0), (0, .ref x0), (1, .ref x1), (2, .ref x2), (3, .ref x3), (4, .ref x4)]) 7 dL_law_1970 rfl (zi_inc _ zi_4) (Nat.le_of_ble_eq_true rfl) rfl (z_goto 28 dL_law_1973 rfl ?_))
        refine z_sub (lv' := [(0, .ref x0), (1, .ref x1), (2, .ref x2), (3, .ref x3), (4, .ref x4), (5, .int (x5 + (4 : Int32)))]) [3, 4, 5, 6, 7, 0] rfl ?_
        refine z_pc (pc' := 28) rfl ?_
        exact hk28 ((x5 + (4 : Int32)), S.cl, S.cd, r219.2)
      · refine z_iconst dL_law_1414 zi_0 ?_
        exact z_zret zemS rfl rfl dL_law_1415
  · refine z_iconst dL_law_1397 zi_0 ?_
    exact z_zret zemS rfl rfl dL_law_1398

def f_L_law_j1449 (S : Zs) (L : Nat) (xs : Nat → Int32) (w : Zw) (x0 : Nat) (x1 : Nat) (x2 : Nat) (x3 : Nat) (x4 : Nat) (x5 : Int32) (y0 : Int32) (k28 : (Int32 × (Nat → Nat → Int64) × (Nat → Nat → UInt64) × Zw) → Option (Int32 × (Nat → Nat → Int64) × (Nat → Nat → UInt64) × Zw)) : Option (Int32 × (Nat → Nat → Int64) × (Nat → Nat → UInt64) × Zw) :=
  if zin (x5 + (1 : Int32)) L = true then if zin (x5 + (2 : Int32)) L = true then (f_X8_job S w x2 (xs (zix (x5 + (1 : Int32)))) (xs (zix (x5 + (2 : Int32))))).bind fun r236 => if (f_X8_thrown S r236.2 x2) = y0 then (if y0 = 0 then (if zin (0 : Int32) (zlen S x3) = true then if (lg_cmp (S.cl x3 (zix (0 : Int32))) ((r236.1).toInt64)) = 0 then k28 ((x5 + (4 : Int32)), S.cl, S.cd, r236.2) else some ((0 : Int32), S.cl, S.cd, r236.2) else none) else k28 ((x5 + (4 : Int32)), S.cl, S.cd, r236.2)) else some ((0 : Int32), S.cl, S.cd, r236.2) else none else none
theorem m_L_law_j1449 {E : ZE} {S : Zs} (hW : zWF S) (w : Zw) (x0 : Nat) (hx0 : x0 = 0) (x1 : Nat) (hx1 : zObj S x1 7) (x2 : Nat) (hx2 : zObj S x2 8) (x3 : Nat) (hx3 : zArr S x3 3) (x4 : Nat) (hx4 : zArr S x4 4) (x5 : Int32) (y0 : Int32) (L : Nat) (xs : Nat → Int32) (hL9 : E.L = L) (hx9 : E.xs = xs) (kn qn : Nat) (k28 : (Int32 × (Nat → Nat → Int64) × (Nat → Nat → UInt64) × Zw) → Option (Int32 × (Nat → Nat → Int64) × (Nat → Nat → UInt64) × Zw)) (hk28 : ∀ a : Int32 × (Nat → Nat → Int64) × (Nat → Nat → UInt64) × Zw, zOk (E, i_L_law, 100) kn qn (zSc S a.2.1 a.2.2.1) a.2.2.2 28 [(0, .ref x0), (1, .ref x1), (2, .ref x2), (3, .ref x3), (4, .ref x4), (5, .int a.1)] [] (emS eI S) (k28 a)) : zOk (E, i_L_law, 100) kn qn S w 1449 [(0, .ref x0), (1, .ref x1), (2, .ref x2), (3, .ref x3), (4, .ref x4), (5, .int x5)] [.int y0] (emS eI S) (f_L_law_j1449 S L xs w x0 x1 x2 x3 x4 x5 y0 k28) := by
  unfold f_L_law_j1449
  refine z_istore (lv' := [(6, .int y0), (0, .ref x0), (1, .ref x1), (2, .ref x2), (3, .ref x3), (4, .ref x4), (5, .int x5)]) dL_law_1449 (Nat.le_of_ble_eq_true rfl) rfl (z_aload_n 3 dL_law_1451 rfl (z_aload_n 1 dL_law_1452 rfl (z_iload 6 dL_law_1453 rfl (z_iconst dL_law_1455 zi_1 (z_iadd dL_law_1456 ?_)))))
  refine z_chk (fun c234 => ?_)
  refine z_sldE hL9 hx9 hx0 c234 dL_law_1457 (z_aload_n 1 dL_law_1458 rfl (z_iload 6 dL_law_1459 rfl (z_iconst dL_law_1461 zi_2 (z_iadd dL_law_1462 ?_))))
  refine z_chk (fun c235 => ?_)
  refine z_sldE hL9 hx9 hx0 c235 dL_law_1463 ?_
  refine z_bind (fun r236 hb237 => ?_)
  refine z_callV (kc' := kn) (ks' := qn) (v := (some (.int r236.1))) (S1 := S) (w1 := r236.2) (st := []) [.int (xs (zix (x5 + (1 : Int32)))), .int (xs (zix (x5 + (2 : Int32))))] (m_X8_job hW w x2 hx2 (xs (zix (x5 + (1 : Int32)))) (xs (zix (x5 + (2 : Int32)))) r236 hb237) zc8 hx2 zy_X8_job gw1447 gw1448 gw1446 (Nat.le_of_ble_eq_true rfl) (Nat.le_of_ble_eq_true rfl) (Nat.le_of_eq (Nat.zero_add _)) (Nat.le_of_eq (Nat.zero_add _)) (zal hW) rfl dL_law_1464 (z_at 1467 _ [.int r236.1] rfl rfl rfl ?_)
  refine z_istore (lv' := [(7, .int r236.1), (6, .int y0), (0, .ref x0), (1, .ref x1), (2, .ref x2), (3, .ref x3), (4, .ref x4), (5, .int x5)]) dL_law_1467 (Nat.le_of_ble_eq_true rfl) rfl (z_aload_n 4 dL_law_1469 rfl ?_)
  refine z_callV (kc' := kn) (ks' := qn) (v := (some (.int (f_X8_thrown S r236.2 x2)))) (S1 := S) (w1 := r236.2) (st := []) [] (m_X8_thrown hW r236.2 x2 hx2) zc8 hx2 zy_X8_thrown gw1098 gw1099 gw1097 (Nat.le_of_ble_eq_true rfl) (Nat.le_of_ble_eq_true rfl) (Nat.le_of_eq (Nat.zero_add _)) (Nat.le_of_eq (Nat.zero_add _)) (zal hW) rfl dL_law_1470 (z_at 1473 _ [.int (f_X8_thrown S r236.2 x2)] rfl rfl rfl ?_)
  refine z_iload 1 dL_law_1473 rfl ?_
  refine z_icmp_eq 1480 dL_law_1475 rfl (fun q238 => ?_) (fun q238 => ?_)
  · refine z_iload 1 dL_law_1480 rfl ?_
    refine z_if_ne 1497 dL_law_1482 rfl (fun q239 => ?_) (fun q239 => ?_)
    · refine z_goto 1970 dL_law_1497 rfl (z_iinc (v := (x5 + (4 : Int32))) (lv' := [(5, .int (x5 + (4 : Int32))), (7, .int r236.1), (6, .int y0), (0, .ref x0), (1, .ref x1), (2, .ref x2), (3, .ref x3), (4, .ref x4)]) 7 dL_law_1970 rfl (zi_inc _ zi_4) (Nat.le_of_ble_eq_true rfl) rfl (z_goto 28 dL_law_1973 rfl ?_))
      refine z_sub (lv' := [(0, .ref x0), (1, .ref x1), (2, .ref x2), (3, .ref x3), (4, .ref x4), (5, .int (x5 + (4 : Int32)))]) [3, 4, 5, 6, 7, 0] rfl ?_
      refine z_pc (pc' := 28) rfl ?_
      exact hk28 ((x5 + (4 : Int32)), S.cl, S.cd, r236.2)
    · refine z_aload_n 5 dL_law_1485 rfl (z_iconst dL_law_1486 zi_0 ?_)
      refine z_chk (fun c240 => ?_)
      refine z_lald hx3 c240 dL_law_1487 (z_iload 0 dL_law_1488 rfl (z_i2l (v := (r236.1).toInt64) dL_law_1490 rfl (z_lcmp dL_law_1491 ?_)))
      refine z_if_eq 1497 dL_law_1492 rfl (fun q241 => ?_) (fun q241 => ?_)
      · refine z_goto 1970 dL_law_1497 rfl (z_iinc (v := (x5 + (4 : Int32))) (lv' := [(5, .int (x5 + (4 : Int32))), (7, .int r236.1), (6, .int y0), (0, .ref x0), (1, .ref x1), (2, .ref x2), (3, .ref x3), (4, .ref x4)]) 7 dL_law_1970 rfl (zi_inc _ zi_4) (Nat.le_of_ble_eq_true rfl) rfl (z_goto 28 dL_law_1973 rfl ?_))
        refine z_sub (lv' := [(0, .ref x0), (1, .ref x1), (2, .ref x2), (3, .ref x3), (4, .ref x4), (5, .int (x5 + (4 : Int32)))]) [3, 4, 5, 6, 7, 0] rfl ?_
        refine z_pc (pc' := 28) rfl ?_
        exact hk28 ((x5 + (4 : Int32)), S.cl, S.cd, r236.2)
      · refine z_iconst dL_law_1495 zi_0 ?_
        exact z_zret zemS rfl rfl dL_law_1496
  · refine z_iconst dL_law_1478 zi_0 ?_
    exact z_zret zemS rfl rfl dL_law_1479

def f_L_law_j1511 (S : Zs) (L : Nat) (xs : Nat → Int32) (w : Zw) (x0 : Nat) (x1 : Nat) (x2 : Nat) (x3 : Nat) (x4 : Nat) (x5 : Int32) (y0 : Int32) (k28 : (Int32 × (Nat → Nat → Int64) × (Nat → Nat → UInt64) × Zw) → Option (Int32 × (Nat → Nat → Int64) × (Nat → Nat → UInt64) × Zw)) : Option (Int32 × (Nat → Nat → Int64) × (Nat → Nat → UInt64) × Zw) :=
  if zin (x5 + (1 : Int32)) L = true then (f_X8_account S w x2 (xs (zix (x5 + (1 : Int32))))).bind fun r247 => if (f_X8_thrown S r247.2 x2) = y0 then (if y0 = 0 then (if zin (0 : Int32) (zlen S x3) = true then if (lg_cmp (S.cl x3 (zix (0 : Int32))) ((r247.1).toInt64)) = 0 then k28 ((x5 + (4 : Int32)), S.cl, S.cd, r247.2) else some ((0 : Int32), S.cl, S.cd, r247.2) else none) else k28 ((x5 + (4 : Int32)), S.cl, S.cd, r247.2)) else some ((0 : Int32), S.cl, S.cd, r247.2) else none
theorem m_L_law_j1511 {E : ZE} {S : Zs} (hW : zWF S) (w : Zw) (x0 : Nat) (hx0 : x0 = 0) (x1 : Nat) (hx1 : zObj S x1 7) (x2 : Nat) (hx2 : zObj S x2 8) (x3 : Nat) (hx3 : zArr S x3 3) (x4 : Nat) (hx4 : zArr S x4 4) (x5 : Int32) (y0 : Int32) (L : Nat) (xs : Nat → Int32) (hL9 : E.L = L) (hx9 : E.xs = xs) (kn qn : Nat) (k28 : (Int32 × (Nat → Nat → Int64) × (Nat → Nat → UInt64) × Zw) → Option (Int32 × (Nat → Nat → Int64) × (Nat → Nat → UInt64) × Zw)) (hk28 : ∀ a : Int32 × (Nat → Nat → Int64) × (Nat → Nat → UInt64) × Zw, zOk (E, i_L_law, 100) kn qn (zSc S a.2.1 a.2.2.1) a.2.2.2 28 [(0, .ref x0), (1, .ref x1), (2, .ref x2), (3, .ref x3), (4, .ref x4), (5, .int a.1)] [] (emS eI S) (k28 a)) : zOk (E, i_L_law, 100) kn qn S w 1511 [(0, .ref x0), (1, .ref x1), (2, .ref x2), (3, .ref x3), (4, .ref x4), (5, .int x5)] [.int y0] (emS eI S) (f_L_law_j1511 S L xs w x0 x1 x2 x3 x4 x5 y0 k28) := by
  unfold f_L_law_j1511
  refine z_istore (lv' := [(6, .int y0), (0, .ref x0), (1, .ref x1), (2, .ref x2), (3, .ref x3), (4, .ref x4), (5, .int x5)]) dL_law_1511 (Nat.le_of_ble_eq_true rfl) rfl (z_aload_n 3 dL_law_1513 rfl (z_aload_n 1 dL_law_1514 rfl (z_iload 6 dL_law_1515 rfl (z_iconst dL_law_1517 zi_1 (z_iadd dL_law_1518 ?_)))))
  refine z_chk (fun c246 => ?_)
  refine z_sldE hL9 hx9 hx0 c246 dL_law_1519 ?_
  refine z_bind (fun r247 hb248 => ?_)
  refine z_callV (kc' := kn) (ks' := qn) (v := (some (.int r247.1))) (S1 := S) (w1 := r247.2) (st := []) [.int (xs (zix (x5 + (1 : Int32))))] (m_X8_account hW w x2 hx2 (xs (zix (x5 + (1 : Int32)))) r247 hb248) zc8 hx2 zy_X8_account gw1451 gw1452 gw1450 (Nat.le_of_ble_eq_true rfl) (Nat.le_of_ble_eq_true rfl) (Nat.le_of_eq (Nat.zero_add _)) (Nat.le_of_eq (Nat.zero_add _)) (zal hW) rfl dL_law_1520 (z_at 1523 _ [.int r247.1] rfl rfl rfl ?_)
  refine z_istore (lv' := [(7, .int r247.1), (6, .int y0), (0, .ref x0), (1, .ref x1), (2, .ref x2), (3, .ref x3), (4, .ref x4), (5, .int x5)]) dL_law_1523 (Nat.le_of_ble_eq_true rfl) rfl (z_aload_n 4 dL_law_1525 rfl ?_)
  refine z_callV (kc' := kn) (ks' := qn) (v := (some (.int (f_X8_thrown S r247.2 x2)))) (S1 := S) (w1 := r247.2) (st := []) [] (m_X8_thrown hW r247.2 x2 hx2) zc8 hx2 zy_X8_thrown gw1098 gw1099 gw1097 (Nat.le_of_ble_eq_true rfl) (Nat.le_of_ble_eq_true rfl) (Nat.le_of_eq (Nat.zero_add _)) (Nat.le_of_eq (Nat.zero_add _)) (zal hW) rfl dL_law_1526 (z_at 1529 _ [.int (f_X8_thrown S r247.2 x2)] rfl rfl rfl ?_)
  refine z_iload 1 dL_law_1529 rfl ?_
  refine z_icmp_eq 1536 dL_law_1531 rfl (fun q249 => ?_) (fun q249 => ?_)
  · refine z_iload 1 dL_law_1536 rfl ?_
    refine z_if_ne 1553 dL_law_1538 rfl (fun q250 => ?_) (fun q250 => ?_)
    · refine z_goto 1970 dL_law_1553 rfl (z_iinc (v := (x5 + (4 : Int32))) (lv' := [(5, .int (x5 + (4 : Int32))), (7, .int r247.1), (6, .int y0), (0, .ref x0), (1, .ref x1), (2, .ref x2), (3, .ref x3), (4, .ref x4)]) 7 dL_law_1970 rfl (zi_inc _ zi_4) (Nat.le_of_ble_eq_true rfl) rfl (z_goto 28 dL_law_1973 rfl ?_))
      refine z_sub (lv' := [(0, .ref x0), (1, .ref x1), (2, .ref x2), (3, .ref x3), (4, .ref x4), (5, .int (x5 + (4 : Int32)))]) [3, 4, 5, 6, 7, 0] rfl ?_
      refine z_pc (pc' := 28) rfl ?_
      exact hk28 ((x5 + (4 : Int32)), S.cl, S.cd, r247.2)
    · refine z_aload_n 5 dL_law_1541 rfl (z_iconst dL_law_1542 zi_0 ?_)
      refine z_chk (fun c251 => ?_)
      refine z_lald hx3 c251 dL_law_1543 (z_iload 0 dL_law_1544 rfl (z_i2l (v := (r247.1).toInt64) dL_law_1546 rfl (z_lcmp dL_law_1547 ?_)))
      refine z_if_eq 1553 dL_law_1548 rfl (fun q252 => ?_) (fun q252 => ?_)
      · refine z_goto 1970 dL_law_1553 rfl (z_iinc (v := (x5 + (4 : Int32))) (lv' := [(5, .int (x5 + (4 : Int32))), (7, .int r247.1), (6, .int y0), (0, .ref x0), (1, .ref x1), (2, .ref x2), (3, .ref x3), (4, .ref x4)]) 7 dL_law_1970 rfl (zi_inc _ zi_4) (Nat.le_of_ble_eq_true rfl) rfl (z_goto 28 dL_law_1973 rfl ?_))
        refine z_sub (lv' := [(0, .ref x0), (1, .ref x1), (2, .ref x2), (3, .ref x3), (4, .ref x4), (5, .int (x5 + (4 : Int32)))]) [3, 4, 5, 6, 7, 0] rfl ?_
        refine z_pc (pc' := 28) rfl ?_
        exact hk28 ((x5 + (4 : Int32)), S.cl, S.cd, r247.2)
      · refine z_iconst dL_law_1551 zi_0 ?_
        exact z_zret zemS rfl rfl dL_law_1552
  · refine z_iconst dL_law_1534 zi_0 ?_
    exact z_zret zemS rfl rfl dL_law_1535

def f_L_law_j1568 (S : Zs) (L : Nat) (xs : Nat → Int32) (w : Zw) (x0 : Nat) (x1 : Nat) (x2 : Nat) (x3 : Nat) (x4 : Nat) (x5 : Int32) (y0 : Int32) (k28 : (Int32 × (Nat → Nat → Int64) × (Nat → Nat → UInt64) × Zw) → Option (Int32 × (Nat → Nat → Int64) × (Nat → Nat → UInt64) × Zw)) : Option (Int32 × (Nat → Nat → Int64) × (Nat → Nat → UInt64) × Zw) :=
  if zin (x5 + (1 : Int32)) L = true then (f_X8_load S w x2 (xs (zix (x5 + (1 : Int32))))).bind fun r258 => if (f_X8_thrown S r258.2 x2) = y0 then (if y0 = 0 then (if zin (0 : Int32) (zlen S x4) = true then if zn64 (FP.f2d r258.1) = true then if (Op.cmpValue (FP.dcmp (S.cd x4 (zix (0 : Int32))) (FP.f2d r258.1)) .l) = 0 then k28 ((x5 + (4 : Int32)), S.cl, S.cd, r258.2) else if zin (0 : Int32) (zlen S x4) = true then if zin (0 : Int32) (zlen S x4) = true then if (Op.cmpValue (FP.dcmp (S.cd x4 (zix (0 : Int32))) (S.cd x4 (zix (0 : Int32)))) .l) = 0 then some ((0 : Int32), S.cl, S.cd, r258.2) else if (Op.cmpValue (FP.fcmp r258.1 r258.1) .l) = 0 then some ((0 : Int32), S.cl, S.cd, r258.2) else k28 ((x5 + (4 : Int32)), S.cl, S.cd, r258.2) else none else none else none else none) else k28 ((x5 + (4 : Int32)), S.cl, S.cd, r258.2)) else some ((0 : Int32), S.cl, S.cd, r258.2) else none
theorem m_L_law_j1568 {E : ZE} {S : Zs} (hW : zWF S) (w : Zw) (x0 : Nat) (hx0 : x0 = 0) (x1 : Nat) (hx1 : zObj S x1 7) (x2 : Nat) (hx2 : zObj S x2 8) (x3 : Nat) (hx3 : zArr S x3 3) (x4 : Nat) (hx4 : zArr S x4 4) (x5 : Int32) (y0 : Int32) (L : Nat) (xs : Nat → Int32) (hL9 : E.L = L) (hx9 : E.xs = xs) (kn qn : Nat) (k28 : (Int32 × (Nat → Nat → Int64) × (Nat → Nat → UInt64) × Zw) → Option (Int32 × (Nat → Nat → Int64) × (Nat → Nat → UInt64) × Zw)) (hk28 : ∀ a : Int32 × (Nat → Nat → Int64) × (Nat → Nat → UInt64) × Zw, zOk (E, i_L_law, 100) kn qn (zSc S a.2.1 a.2.2.1) a.2.2.2 28 [(0, .ref x0), (1, .ref x1), (2, .ref x2), (3, .ref x3), (4, .ref x4), (5, .int a.1)] [] (emS eI S) (k28 a)) : zOk (E, i_L_law, 100) kn qn S w 1568 [(0, .ref x0), (1, .ref x1), (2, .ref x2), (3, .ref x3), (4, .ref x4), (5, .int x5)] [.int y0] (emS eI S) (f_L_law_j1568 S L xs w x0 x1 x2 x3 x4 x5 y0 k28) := by
  unfold f_L_law_j1568
  refine z_istore (lv' := [(6, .int y0), (0, .ref x0), (1, .ref x1), (2, .ref x2), (3, .ref x3), (4, .ref x4), (5, .int x5)]) dL_law_1568 (Nat.le_of_ble_eq_true rfl) rfl (z_aload_n 3 dL_law_1570 rfl (z_aload_n 1 dL_law_1571 rfl (z_iload 6 dL_law_1572 rfl (z_iconst dL_law_1574 zi_1 (z_iadd dL_law_1575 ?_)))))
  refine z_chk (fun c257 => ?_)
  refine z_sldE hL9 hx9 hx0 c257 dL_law_1576 ?_
  refine z_bind (fun r258 hb259 => ?_)
  refine z_callV (kc' := kn) (ks' := qn) (v := (some (.float r258.1))) (S1 := S) (w1 := r258.2) (st := []) [.int (xs (zix (x5 + (1 : Int32))))] (m_X8_load hW w x2 hx2 (xs (zix (x5 + (1 : Int32)))) r258 hb259) zc8 hx2 zy_X8_load gw1455 gw1456 gw1454 (Nat.le_of_ble_eq_true rfl) (Nat.le_of_ble_eq_true rfl) (Nat.le_of_eq (Nat.zero_add _)) (Nat.le_of_eq (Nat.zero_add _)) (zal hW) rfl dL_law_1577 (z_at 1580 _ [.float r258.1] rfl rfl rfl ?_)
  refine z_fstore (lv' := [(7, .float r258.1), (6, .int y0), (0, .ref x0), (1, .ref x1), (2, .ref x2), (3, .ref x3), (4, .ref x4), (5, .int x5)]) dL_law_1580 (Nat.le_of_ble_eq_true rfl) rfl (z_aload_n 4 dL_law_1582 rfl ?_)
  refine z_callV (kc' := kn) (ks' := qn) (v := (some (.int (f_X8_thrown S r258.2 x2)))) (S1 := S) (w1 := r258.2) (st := []) [] (m_X8_thrown hW r258.2 x2 hx2) zc8 hx2 zy_X8_thrown gw1098 gw1099 gw1097 (Nat.le_of_ble_eq_true rfl) (Nat.le_of_ble_eq_true rfl) (Nat.le_of_eq (Nat.zero_add _)) (Nat.le_of_eq (Nat.zero_add _)) (zal hW) rfl dL_law_1583 (z_at 1586 _ [.int (f_X8_thrown S r258.2 x2)] rfl rfl rfl ?_)
  refine z_iload 1 dL_law_1586 rfl ?_
  refine z_icmp_eq 1593 dL_law_1588 rfl (fun q260 => ?_) (fun q260 => ?_)
  · refine z_iload 1 dL_law_1593 rfl ?_
    refine z_if_ne 1631 dL_law_1595 rfl (fun q261 => ?_) (fun q261 => ?_)
    · refine z_goto 1970 dL_law_1631 rfl (z_iinc (v := (x5 + (4 : Int32))) (lv' := [(5, .int (x5 + (4 : Int32))), (7, .float r258.1), (6, .int y0), (0, .ref x0), (1, .ref x1), (2, .ref x2), (3, .ref x3), (4, .ref x4)]) 7 dL_law_1970 rfl (zi_inc _ zi_4) (Nat.le_of_ble_eq_true rfl) rfl (z_goto 28 dL_law_1973 rfl ?_))
      refine z_sub (lv' := [(0, .ref x0), (1, .ref x1), (2, .ref x2), (3, .ref x3), (4, .ref x4), (5, .int (x5 + (4 : Int32)))]) [3, 4, 5, 6, 7, 0] rfl ?_
      refine z_pc (pc' := 28) rfl ?_
      exact hk28 ((x5 + (4 : Int32)), S.cl, S.cd, r258.2)
    · refine z_aload 6 dL_law_1598 rfl (z_iconst dL_law_1600 zi_0 ?_)
      refine z_chk (fun c262 => ?_)
      refine z_dald hx4 c262 dL_law_1601 (z_fload 0 dL_law_1602 rfl ?_)
      refine z_chk (fun c263 => ?_)
      refine z_f2d dL_law_1604 (zn64_ok c263) (z_dcmp dL_law_1605 ?_)
      refine z_if_eq 1631 dL_law_1606 rfl (fun q264 => ?_) (fun q264 => ?_)
      · refine z_goto 1970 dL_law_1631 rfl (z_iinc (v := (x5 + (4 : Int32))) (lv' := [(5, .int (x5 + (4 : Int32))), (7, .float r258.1), (6, .int y0), (0, .ref x0), (1, .ref x1), (2, .ref x2), (3, .ref x3), (4, .ref x4)]) 7 dL_law_1970 rfl (zi_inc _ zi_4) (Nat.le_of_ble_eq_true rfl) rfl (z_goto 28 dL_law_1973 rfl ?_))
        refine z_sub (lv' := [(0, .ref x0), (1, .ref x1), (2, .ref x2), (3, .ref x3), (4, .ref x4), (5, .int (x5 + (4 : Int32)))]) [3, 4, 5, 6, 7, 0] rfl ?_
        refine z_pc (pc' := 28) rfl ?_
        exact hk28 ((x5 + (4 : Int32)), S.cl, S.cd, r258.2)
      · refine z_aload 6 dL_law_1609 rfl (z_iconst dL_law_1611 zi_0 ?_)
        refine z_chk (fun c265 => ?_)
        refine z_dald hx4 c265 dL_law_1612 (z_aload 6 dL_law_1613 rfl (z_iconst dL_law_1615 zi_0 ?_))
        refine z_chk (fun c266 => ?_)
        refine z_dald hx4 c266 dL_law_1616 (z_dcmp dL_law_1617 ?_)
        refine z_if_eq 1629 dL_law_1618 rfl (fun q267 => ?_) (fun q267 => ?_)
        · refine z_iconst dL_law_1629 zi_0 ?_
          exact z_zret zemS rfl rfl dL_law_1630
        · refine z_fload 0 dL_law_1621 rfl (z_fload 0 dL_law_1623 rfl (z_fcmp dL_law_1625 ?_))
          refine z_if_ne 1631 dL_law_1626 rfl (fun q268 => ?_) (fun q268 => ?_)
          · refine z_goto 1970 dL_law_1631 rfl (z_iinc (v := (x5 + (4 : Int32))) (lv' := [(5, .int (x5 + (4 : Int32))), (7, .float r258.1), (6, .int y0), (0, .ref x0), (1, .ref x1), (2, .ref x2), (3, .ref x3), (4, .ref x4)]) 7 dL_law_1970 rfl (zi_inc _ zi_4) (Nat.le_of_ble_eq_true rfl) rfl (z_goto 28 dL_law_1973 rfl ?_))
            refine z_sub (lv' := [(0, .ref x0), (1, .ref x1), (2, .ref x2), (3, .ref x3), (4, .ref x4), (5, .int (x5 + (4 : Int32)))]) [3, 4, 5, 6, 7, 0] rfl ?_
            refine z_pc (pc' := 28) rfl ?_
            exact hk28 ((x5 + (4 : Int32)), S.cl, S.cd, r258.2)
          · refine z_iconst dL_law_1629 zi_0 ?_
            exact z_zret zemS rfl rfl dL_law_1630
  · refine z_iconst dL_law_1591 zi_0 ?_
    exact z_zret zemS rfl rfl dL_law_1592

def f_L_law_j1640 (S : Zs) (L : Nat) (xs : Nat → Int32) (w : Zw) (x0 : Nat) (x1 : Nat) (x2 : Nat) (x3 : Nat) (x4 : Nat) (x5 : Int32) (y0 : Int32) (k28 : (Int32 × (Nat → Nat → Int64) × (Nat → Nat → UInt64) × Zw) → Option (Int32 × (Nat → Nat → Int64) × (Nat → Nat → UInt64) × Zw)) : Option (Int32 × (Nat → Nat → Int64) × (Nat → Nat → UInt64) × Zw) :=
  (f_X8_meanJob S w x2).bind fun r272 => if (f_X8_thrown S r272.2 x2) = y0 then (if y0 = 0 then (if zin (0 : Int32) (zlen S x4) = true then if (Op.cmpValue (FP.dcmp (S.cd x4 (zix (0 : Int32))) r272.1) .l) = 0 then k28 ((x5 + (4 : Int32)), S.cl, S.cd, r272.2) else if zin (0 : Int32) (zlen S x4) = true then if zin (0 : Int32) (zlen S x4) = true then if (Op.cmpValue (FP.dcmp (S.cd x4 (zix (0 : Int32))) (S.cd x4 (zix (0 : Int32)))) .l) = 0 then some ((0 : Int32), S.cl, S.cd, r272.2) else if (Op.cmpValue (FP.dcmp r272.1 r272.1) .l) = 0 then some ((0 : Int32), S.cl, S.cd, r272.2) else k28 ((x5 + (4 : Int32)), S.cl, S.cd, r272.2) else none else none else none) else k28 ((x5 + (4 : Int32)), S.cl, S.cd, r272.2)) else some ((0 : Int32), S.cl, S.cd, r272.2)
theorem m_L_law_j1640 {E : ZE} {S : Zs} (hW : zWF S) (w : Zw) (x0 : Nat) (hx0 : x0 = 0) (x1 : Nat) (hx1 : zObj S x1 7) (x2 : Nat) (hx2 : zObj S x2 8) (x3 : Nat) (hx3 : zArr S x3 3) (x4 : Nat) (hx4 : zArr S x4 4) (x5 : Int32) (y0 : Int32) (L : Nat) (xs : Nat → Int32) (hL9 : E.L = L) (hx9 : E.xs = xs) (kn qn : Nat) (k28 : (Int32 × (Nat → Nat → Int64) × (Nat → Nat → UInt64) × Zw) → Option (Int32 × (Nat → Nat → Int64) × (Nat → Nat → UInt64) × Zw)) (hk28 : ∀ a : Int32 × (Nat → Nat → Int64) × (Nat → Nat → UInt64) × Zw, zOk (E, i_L_law, 100) kn qn (zSc S a.2.1 a.2.2.1) a.2.2.2 28 [(0, .ref x0), (1, .ref x1), (2, .ref x2), (3, .ref x3), (4, .ref x4), (5, .int a.1)] [] (emS eI S) (k28 a)) : zOk (E, i_L_law, 100) kn qn S w 1640 [(0, .ref x0), (1, .ref x1), (2, .ref x2), (3, .ref x3), (4, .ref x4), (5, .int x5)] [.int y0] (emS eI S) (f_L_law_j1640 S L xs w x0 x1 x2 x3 x4 x5 y0 k28) := by
  unfold f_L_law_j1640
  refine z_istore (lv' := [(6, .int y0), (0, .ref x0), (1, .ref x1), (2, .ref x2), (3, .ref x3), (4, .ref x4), (5, .int x5)]) dL_law_1640 (Nat.le_of_ble_eq_true rfl) rfl (z_aload_n 3 dL_law_1642 rfl ?_)
  refine z_bind (fun r272 hb273 => ?_)
  refine z_callV (kc' := kn) (ks' := qn) (v := (some (.double r272.1))) (S1 := S) (w1 := r272.2) (st := []) [] (m_X8_meanJob hW w x2 hx2 r272 hb273) zc8 hx2 zy_X8_meanJob gw1459 gw1460 gw1458 (Nat.le_of_ble_eq_true rfl) (Nat.le_of_ble_eq_true rfl) (Nat.le_of_eq (Nat.zero_add _)) (Nat.le_of_eq (Nat.zero_add _)) (zal hW) rfl dL_law_1643 (z_at 1646 _ [.double r272.1] rfl rfl rfl ?_)
  refine z_dstore (lv' := [(7, .double r272.1), (6, .int y0), (0, .ref x0), (1, .ref x1), (2, .ref x2), (3, .ref x3), (4, .ref x4), (5, .int x5)]) dL_law_1646 (Nat.le_of_ble_eq_true rfl) rfl (z_aload_n 4 dL_law_1648 rfl ?_)
  refine z_callV (kc' := kn) (ks' := qn) (v := (some (.int (f_X8_thrown S r272.2 x2)))) (S1 := S) (w1 := r272.2) (st := []) [] (m_X8_thrown hW r272.2 x2 hx2) zc8 hx2 zy_X8_thrown gw1098 gw1099 gw1097 (Nat.le_of_ble_eq_true rfl) (Nat.le_of_ble_eq_true rfl) (Nat.le_of_eq (Nat.zero_add _)) (Nat.le_of_eq (Nat.zero_add _)) (zal hW) rfl dL_law_1649 (z_at 1652 _ [.int (f_X8_thrown S r272.2 x2)] rfl rfl rfl ?_)
  refine z_iload 1 dL_law_1652 rfl ?_
  refine z_icmp_eq 1659 dL_law_1654 rfl (fun q274 => ?_) (fun q274 => ?_)
  · refine z_iload 1 dL_law_1659 rfl ?_
    refine z_if_ne 1696 dL_law_1661 rfl (fun q275 => ?_) (fun q275 => ?_)
    · refine z_goto 1970 dL_law_1696 rfl (z_iinc (v := (x5 + (4 : Int32))) (lv' := [(5, .int (x5 + (4 : Int32))), (7, .double r272.1), (6, .int y0), (0, .ref x0), (1, .ref x1), (2, .ref x2), (3, .ref x3), (4, .ref x4)]) 7 dL_law_1970 rfl (zi_inc _ zi_4) (Nat.le_of_ble_eq_true rfl) rfl (z_goto 28 dL_law_1973 rfl ?_))
      refine z_sub (lv' := [(0, .ref x0), (1, .ref x1), (2, .ref x2), (3, .ref x3), (4, .ref x4), (5, .int (x5 + (4 : Int32)))]) [3, 4, 5, 6, 7, 0] rfl ?_
      refine z_pc (pc' := 28) rfl ?_
      exact hk28 ((x5 + (4 : Int32)), S.cl, S.cd, r272.2)
    · refine z_aload 6 dL_law_1664 rfl (z_iconst dL_law_1666 zi_0 ?_)
      refine z_chk (fun c276 => ?_)
      refine z_dald hx4 c276 dL_law_1667 (z_dload 0 dL_law_1668 rfl (z_dcmp dL_law_1670 ?_))
      refine z_if_eq 1696 dL_law_1671 rfl (fun q277 => ?_) (fun q277 => ?_)
      · refine z_goto 1970 dL_law_1696 rfl (z_iinc (v := (x5 + (4 : Int32))) (lv' := [(5, .int (x5 + (4 : Int32))), (7, .double r272.1), (6, .int y0), (0, .ref x0), (1, .ref x1), (2, .ref x2), (3, .ref x3), (4, .ref x4)]) 7 dL_law_1970 rfl (zi_inc _ zi_4) (Nat.le_of_ble_eq_true rfl) rfl (z_goto 28 dL_law_1973 rfl ?_))
        refine z_sub (lv' := [(0, .ref x0), (1, .ref x1), (2, .ref x2), (3, .ref x3), (4, .ref x4), (5, .int (x5 + (4 : Int32)))]) [3, 4, 5, 6, 7, 0] rfl ?_
        refine z_pc (pc' := 28) rfl ?_
        exact hk28 ((x5 + (4 : Int32)), S.cl, S.cd, r272.2)
      · refine z_aload 6 dL_law_1674 rfl (z_iconst dL_law_1676 zi_0 ?_)
        refine z_chk (fun c278 => ?_)
        refine z_dald hx4 c278 dL_law_1677 (z_aload 6 dL_law_1678 rfl (z_iconst dL_law_1680 zi_0 ?_))
        refine z_chk (fun c279 => ?_)
        refine z_dald hx4 c279 dL_law_1681 (z_dcmp dL_law_1682 ?_)
        refine z_if_eq 1694 dL_law_1683 rfl (fun q280 => ?_) (fun q280 => ?_)
        · refine z_iconst dL_law_1694 zi_0 ?_
          exact z_zret zemS rfl rfl dL_law_1695
        · refine z_dload 0 dL_law_1686 rfl (z_dload 0 dL_law_1688 rfl (z_dcmp dL_law_1690 ?_))
          refine z_if_ne 1696 dL_law_1691 rfl (fun q281 => ?_) (fun q281 => ?_)
          · refine z_goto 1970 dL_law_1696 rfl (z_iinc (v := (x5 + (4 : Int32))) (lv' := [(5, .int (x5 + (4 : Int32))), (7, .double r272.1), (6, .int y0), (0, .ref x0), (1, .ref x1), (2, .ref x2), (3, .ref x3), (4, .ref x4)]) 7 dL_law_1970 rfl (zi_inc _ zi_4) (Nat.le_of_ble_eq_true rfl) rfl (z_goto 28 dL_law_1973 rfl ?_))
            refine z_sub (lv' := [(0, .ref x0), (1, .ref x1), (2, .ref x2), (3, .ref x3), (4, .ref x4), (5, .int (x5 + (4 : Int32)))]) [3, 4, 5, 6, 7, 0] rfl ?_
            refine z_pc (pc' := 28) rfl ?_
            exact hk28 ((x5 + (4 : Int32)), S.cl, S.cd, r272.2)
          · refine z_iconst dL_law_1694 zi_0 ?_
            exact z_zret zemS rfl rfl dL_law_1695
  · refine z_iconst dL_law_1657 zi_0 ?_
    exact z_zret zemS rfl rfl dL_law_1658

def f_L_law_j1716 (S : Zs) (L : Nat) (xs : Nat → Int32) (w : Zw) (x0 : Nat) (x1 : Nat) (x2 : Nat) (x3 : Nat) (x4 : Nat) (x5 : Int32) (y0 : Int32) (k28 : (Int32 × (Nat → Nat → Int64) × (Nat → Nat → UInt64) × Zw) → Option (Int32 × (Nat → Nat → Int64) × (Nat → Nat → UInt64) × Zw)) : Option (Int32 × (Nat → Nat → Int64) × (Nat → Nat → UInt64) × Zw) :=
  if zin (x5 + (1 : Int32)) L = true then if zin (x5 + (2 : Int32)) L = true then (f_X8_report S w x2 (xs (zix (x5 + (1 : Int32)))) (xs (zix (x5 + (2 : Int32))))).bind fun r289 => if (f_X8_thrown S r289.2 x2) = y0 then (if y0 = 0 then (if zin (0 : Int32) (zlen S x3) = true then if (lg_cmp (S.cl x3 (zix (0 : Int32))) ((r289.1).toInt64)) = 0 then k28 ((x5 + (4 : Int32)), S.cl, S.cd, r289.2) else some ((0 : Int32), S.cl, S.cd, r289.2) else none) else k28 ((x5 + (4 : Int32)), S.cl, S.cd, r289.2)) else some ((0 : Int32), S.cl, S.cd, r289.2) else none else none
theorem m_L_law_j1716 {E : ZE} {S : Zs} (hW : zWF S) (w : Zw) (x0 : Nat) (hx0 : x0 = 0) (x1 : Nat) (hx1 : zObj S x1 7) (x2 : Nat) (hx2 : zObj S x2 8) (x3 : Nat) (hx3 : zArr S x3 3) (x4 : Nat) (hx4 : zArr S x4 4) (x5 : Int32) (y0 : Int32) (L : Nat) (xs : Nat → Int32) (hL9 : E.L = L) (hx9 : E.xs = xs) (kn qn : Nat) (k28 : (Int32 × (Nat → Nat → Int64) × (Nat → Nat → UInt64) × Zw) → Option (Int32 × (Nat → Nat → Int64) × (Nat → Nat → UInt64) × Zw)) (hk28 : ∀ a : Int32 × (Nat → Nat → Int64) × (Nat → Nat → UInt64) × Zw, zOk (E, i_L_law, 100) kn qn (zSc S a.2.1 a.2.2.1) a.2.2.2 28 [(0, .ref x0), (1, .ref x1), (2, .ref x2), (3, .ref x3), (4, .ref x4), (5, .int a.1)] [] (emS eI S) (k28 a)) : zOk (E, i_L_law, 100) kn qn S w 1716 [(0, .ref x0), (1, .ref x1), (2, .ref x2), (3, .ref x3), (4, .ref x4), (5, .int x5)] [.int y0] (emS eI S) (f_L_law_j1716 S L xs w x0 x1 x2 x3 x4 x5 y0 k28) := by
  unfold f_L_law_j1716
  refine z_istore (lv' := [(6, .int y0), (0, .ref x0), (1, .ref x1), (2, .ref x2), (3, .ref x3), (4, .ref x4), (5, .int x5)]) dL_law_1716 (Nat.le_of_ble_eq_true rfl) rfl (z_aload_n 3 dL_law_1718 rfl (z_aload_n 1 dL_law_1719 rfl (z_iload 6 dL_law_1720 rfl (z_iconst dL_law_1722 zi_1 (z_iadd dL_law_1723 ?_)))))
  refine z_chk (fun c287 => ?_)
  refine z_sldE hL9 hx9 hx0 c287 dL_law_1724 (z_aload_n 1 dL_law_1725 rfl (z_iload 6 dL_law_1726 rfl (z_iconst dL_law_1728 zi_2 (z_iadd dL_law_1729 ?_))))
  refine z_chk (fun c288 => ?_)
  refine z_sldE hL9 hx9 hx0 c288 dL_law_1730 ?_
  refine z_bind (fun r289 hb290 => ?_)
  refine z_callV (kc' := kn) (ks' := qn) (v := (some (.int r289.1))) (S1 := S) (w1 := r289.2) (st := []) [.int (xs (zix (x5 + (1 : Int32)))), .int (xs (zix (x5 + (2 : Int32))))] (m_X8_report hW w x2 hx2 (xs (zix (x5 + (1 : Int32)))) (xs (zix (x5 + (2 : Int32)))) r289 hb290) zc8 hx2 zy_X8_report gw1463 gw1464 gw1462 (Nat.le_of_ble_eq_true rfl) (Nat.le_of_ble_eq_true rfl) (Nat.le_of_eq (Nat.zero_add _)) (Nat.le_of_eq (Nat.zero_add _)) (zal hW) rfl dL_law_1731 (z_at 1734 _ [.int r289.1] rfl rfl rfl ?_)
  refine z_istore (lv' := [(7, .int r289.1), (6, .int y0), (0, .ref x0), (1, .ref x1), (2, .ref x2), (3, .ref x3), (4, .ref x4), (5, .int x5)]) dL_law_1734 (Nat.le_of_ble_eq_true rfl) rfl (z_aload_n 4 dL_law_1736 rfl ?_)
  refine z_callV (kc' := kn) (ks' := qn) (v := (some (.int (f_X8_thrown S r289.2 x2)))) (S1 := S) (w1 := r289.2) (st := []) [] (m_X8_thrown hW r289.2 x2 hx2) zc8 hx2 zy_X8_thrown gw1098 gw1099 gw1097 (Nat.le_of_ble_eq_true rfl) (Nat.le_of_ble_eq_true rfl) (Nat.le_of_eq (Nat.zero_add _)) (Nat.le_of_eq (Nat.zero_add _)) (zal hW) rfl dL_law_1737 (z_at 1740 _ [.int (f_X8_thrown S r289.2 x2)] rfl rfl rfl ?_)
  refine z_iload 1 dL_law_1740 rfl ?_
  refine z_icmp_eq 1747 dL_law_1742 rfl (fun q291 => ?_) (fun q291 => ?_)
  · refine z_iload 1 dL_law_1747 rfl ?_
    refine z_if_ne 1764 dL_law_1749 rfl (fun q292 => ?_) (fun q292 => ?_)
    · refine z_goto 1970 dL_law_1764 rfl (z_iinc (v := (x5 + (4 : Int32))) (lv' := [(5, .int (x5 + (4 : Int32))), (7, .int r289.1), (6, .int y0), (0, .ref x0), (1, .ref x1), (2, .ref x2), (3, .ref x3), (4, .ref x4)]) 7 dL_law_1970 rfl (zi_inc _ zi_4) (Nat.le_of_ble_eq_true rfl) rfl (z_goto 28 dL_law_1973 rfl ?_))
      refine z_sub (lv' := [(0, .ref x0), (1, .ref x1), (2, .ref x2), (3, .ref x3), (4, .ref x4), (5, .int (x5 + (4 : Int32)))]) [3, 4, 5, 6, 7, 0] rfl ?_
      refine z_pc (pc' := 28) rfl ?_
      exact hk28 ((x5 + (4 : Int32)), S.cl, S.cd, r289.2)
    · refine z_aload_n 5 dL_law_1752 rfl (z_iconst dL_law_1753 zi_0 ?_)
      refine z_chk (fun c293 => ?_)
      refine z_lald hx3 c293 dL_law_1754 (z_iload 0 dL_law_1755 rfl (z_i2l (v := (r289.1).toInt64) dL_law_1757 rfl (z_lcmp dL_law_1758 ?_)))
      refine z_if_eq 1764 dL_law_1759 rfl (fun q294 => ?_) (fun q294 => ?_)
      · refine z_goto 1970 dL_law_1764 rfl (z_iinc (v := (x5 + (4 : Int32))) (lv' := [(5, .int (x5 + (4 : Int32))), (7, .int r289.1), (6, .int y0), (0, .ref x0), (1, .ref x1), (2, .ref x2), (3, .ref x3), (4, .ref x4)]) 7 dL_law_1970 rfl (zi_inc _ zi_4) (Nat.le_of_ble_eq_true rfl) rfl (z_goto 28 dL_law_1973 rfl ?_))
        refine z_sub (lv' := [(0, .ref x0), (1, .ref x1), (2, .ref x2), (3, .ref x3), (4, .ref x4), (5, .int (x5 + (4 : Int32)))]) [3, 4, 5, 6, 7, 0] rfl ?_
        refine z_pc (pc' := 28) rfl ?_
        exact hk28 ((x5 + (4 : Int32)), S.cl, S.cd, r289.2)
      · refine z_iconst dL_law_1762 zi_0 ?_
        exact z_zret zemS rfl rfl dL_law_1763
  · refine z_iconst dL_law_1745 zi_0 ?_
    exact z_zret zemS rfl rfl dL_law_1746

def f_L_law_j1779 (S : Zs) (L : Nat) (xs : Nat → Int32) (w : Zw) (x0 : Nat) (x1 : Nat) (x2 : Nat) (x3 : Nat) (x4 : Nat) (x5 : Int32) (y0 : Int32) (k28 : (Int32 × (Nat → Nat → Int64) × (Nat → Nat → UInt64) × Zw) → Option (Int32 × (Nat → Nat → Int64) × (Nat → Nat → UInt64) × Zw)) : Option (Int32 × (Nat → Nat → Int64) × (Nat → Nat → UInt64) × Zw) :=
  if zin (x5 + (1 : Int32)) L = true then (f_X8_feed S w x2 (zi2c ((xs (zix (x5 + (1 : Int32))))))).bind fun r300 => if (f_X8_thrown S r300.2 x2) = y0 then (if y0 = 0 then (if zin (0 : Int32) (zlen S x3) = true then if (lg_cmp (S.cl x3 (zix (0 : Int32))) ((r300.1).toInt64)) = 0 then k28 ((x5 + (4 : Int32)), S.cl, S.cd, r300.2) else some ((0 : Int32), S.cl, S.cd, r300.2) else none) else k28 ((x5 + (4 : Int32)), S.cl, S.cd, r300.2)) else some ((0 : Int32), S.cl, S.cd, r300.2) else none
theorem m_L_law_j1779 {E : ZE} {S : Zs} (hW : zWF S) (w : Zw) (x0 : Nat) (hx0 : x0 = 0) (x1 : Nat) (hx1 : zObj S x1 7) (x2 : Nat) (hx2 : zObj S x2 8) (x3 : Nat) (hx3 : zArr S x3 3) (x4 : Nat) (hx4 : zArr S x4 4) (x5 : Int32) (y0 : Int32) (L : Nat) (xs : Nat → Int32) (hL9 : E.L = L) (hx9 : E.xs = xs) (kn qn : Nat) (k28 : (Int32 × (Nat → Nat → Int64) × (Nat → Nat → UInt64) × Zw) → Option (Int32 × (Nat → Nat → Int64) × (Nat → Nat → UInt64) × Zw)) (hk28 : ∀ a : Int32 × (Nat → Nat → Int64) × (Nat → Nat → UInt64) × Zw, zOk (E, i_L_law, 100) kn qn (zSc S a.2.1 a.2.2.1) a.2.2.2 28 [(0, .ref x0), (1, .ref x1), (2, .ref x2), (3, .ref x3), (4, .ref x4), (5, .int a.1)] [] (emS eI S) (k28 a)) : zOk (E, i_L_law, 100) kn qn S w 1779 [(0, .ref x0), (1, .ref x1), (2, .ref x2), (3, .ref x3), (4, .ref x4), (5, .int x5)] [.int y0] (emS eI S) (f_L_law_j1779 S L xs w x0 x1 x2 x3 x4 x5 y0 k28) := by
  unfold f_L_law_j1779
  refine z_istore (lv' := [(6, .int y0), (0, .ref x0), (1, .ref x1), (2, .ref x2), (3, .ref x3), (4, .ref x4), (5, .int x5)]) dL_law_1779 (Nat.le_of_ble_eq_true rfl) rfl (z_aload_n 3 dL_law_1781 rfl (z_aload_n 1 dL_law_1782 rfl (z_iload 6 dL_law_1783 rfl (z_iconst dL_law_1785 zi_1 (z_iadd dL_law_1786 ?_)))))
  refine z_chk (fun c299 => ?_)
  refine z_sldE hL9 hx9 hx0 c299 dL_law_1787 (z_i2c (v := (zi2c ((xs (zix (x5 + (1 : Int32))))))) dL_law_1788 rfl ?_)
  refine z_bind (fun r300 hb301 => ?_)
  refine z_callV (kc' := kn) (ks' := qn) (v := (some (.int r300.1))) (S1 := S) (w1 := r300.2) (st := []) [.int (zi2c ((xs (zix (x5 + (1 : Int32))))))] (m_X8_feed hW w x2 hx2 (zi2c ((xs (zix (x5 + (1 : Int32)))))) r300 hb301) zc8 hx2 zy_X8_feed gw1467 gw1468 gw1466 (Nat.le_of_ble_eq_true rfl) (Nat.le_of_ble_eq_true rfl) (Nat.le_of_eq (Nat.zero_add _)) (Nat.le_of_eq (Nat.zero_add _)) (zal hW) rfl dL_law_1789 (z_at 1792 _ [.int r300.1] rfl rfl rfl ?_)
  refine z_istore (lv' := [(7, .int r300.1), (6, .int y0), (0, .ref x0), (1, .ref x1), (2, .ref x2), (3, .ref x3), (4, .ref x4), (5, .int x5)]) dL_law_1792 (Nat.le_of_ble_eq_true rfl) rfl (z_aload_n 4 dL_law_1794 rfl ?_)
  refine z_callV (kc' := kn) (ks' := qn) (v := (some (.int (f_X8_thrown S r300.2 x2)))) (S1 := S) (w1 := r300.2) (st := []) [] (m_X8_thrown hW r300.2 x2 hx2) zc8 hx2 zy_X8_thrown gw1098 gw1099 gw1097 (Nat.le_of_ble_eq_true rfl) (Nat.le_of_ble_eq_true rfl) (Nat.le_of_eq (Nat.zero_add _)) (Nat.le_of_eq (Nat.zero_add _)) (zal hW) rfl dL_law_1795 (z_at 1798 _ [.int (f_X8_thrown S r300.2 x2)] rfl rfl rfl ?_)
  refine z_iload 1 dL_law_1798 rfl ?_
  refine z_icmp_eq 1805 dL_law_1800 rfl (fun q302 => ?_) (fun q302 => ?_)
  · refine z_iload 1 dL_law_1805 rfl ?_
    refine z_if_ne 1822 dL_law_1807 rfl (fun q303 => ?_) (fun q303 => ?_)
    · refine z_goto 1970 dL_law_1822 rfl (z_iinc (v := (x5 + (4 : Int32))) (lv' := [(5, .int (x5 + (4 : Int32))), (7, .int r300.1), (6, .int y0), (0, .ref x0), (1, .ref x1), (2, .ref x2), (3, .ref x3), (4, .ref x4)]) 7 dL_law_1970 rfl (zi_inc _ zi_4) (Nat.le_of_ble_eq_true rfl) rfl (z_goto 28 dL_law_1973 rfl ?_))
      refine z_sub (lv' := [(0, .ref x0), (1, .ref x1), (2, .ref x2), (3, .ref x3), (4, .ref x4), (5, .int (x5 + (4 : Int32)))]) [3, 4, 5, 6, 7, 0] rfl ?_
      refine z_pc (pc' := 28) rfl ?_
      exact hk28 ((x5 + (4 : Int32)), S.cl, S.cd, r300.2)
    · refine z_aload_n 5 dL_law_1810 rfl (z_iconst dL_law_1811 zi_0 ?_)
      refine z_chk (fun c304 => ?_)
      refine z_lald hx3 c304 dL_law_1812 (z_iload 0 dL_law_1813 rfl (z_i2l (v := (r300.1).toInt64) dL_law_1815 rfl (z_lcmp dL_law_1816 ?_)))
      refine z_if_eq 1822 dL_law_1817 rfl (fun q305 => ?_) (fun q305 => ?_)
      · refine z_goto 1970 dL_law_1822 rfl (z_iinc (v := (x5 + (4 : Int32))) (lv' := [(5, .int (x5 + (4 : Int32))), (7, .int r300.1), (6, .int y0), (0, .ref x0), (1, .ref x1), (2, .ref x2), (3, .ref x3), (4, .ref x4)]) 7 dL_law_1970 rfl (zi_inc _ zi_4) (Nat.le_of_ble_eq_true rfl) rfl (z_goto 28 dL_law_1973 rfl ?_))
        refine z_sub (lv' := [(0, .ref x0), (1, .ref x1), (2, .ref x2), (3, .ref x3), (4, .ref x4), (5, .int (x5 + (4 : Int32)))]) [3, 4, 5, 6, 7, 0] rfl ?_
        refine z_pc (pc' := 28) rfl ?_
        exact hk28 ((x5 + (4 : Int32)), S.cl, S.cd, r300.2)
      · refine z_iconst dL_law_1820 zi_0 ?_
        exact z_zret zemS rfl rfl dL_law_1821
  · refine z_iconst dL_law_1803 zi_0 ?_
    exact z_zret zemS rfl rfl dL_law_1804

def f_L_law_j1830 (S : Zs) (L : Nat) (xs : Nat → Int32) (w : Zw) (x0 : Nat) (x1 : Nat) (x2 : Nat) (x3 : Nat) (x4 : Nat) (x5 : Int32) (y0 : Int32) (k28 : (Int32 × (Nat → Nat → Int64) × (Nat → Nat → UInt64) × Zw) → Option (Int32 × (Nat → Nat → Int64) × (Nat → Nat → UInt64) × Zw)) : Option (Int32 × (Nat → Nat → Int64) × (Nat → Nat → UInt64) × Zw) :=
  (f_X8_perform S w x2).bind fun r309 => if (f_X8_thrown S r309.2 x2) = y0 then (if y0 = 0 then (if zin (0 : Int32) (zlen S x3) = true then if (lg_cmp (S.cl x3 (zix (0 : Int32))) ((r309.1).toInt64)) = 0 then k28 ((x5 + (4 : Int32)), S.cl, S.cd, r309.2) else some ((0 : Int32), S.cl, S.cd, r309.2) else none) else k28 ((x5 + (4 : Int32)), S.cl, S.cd, r309.2)) else some ((0 : Int32), S.cl, S.cd, r309.2)
theorem m_L_law_j1830 {E : ZE} {S : Zs} (hW : zWF S) (w : Zw) (x0 : Nat) (hx0 : x0 = 0) (x1 : Nat) (hx1 : zObj S x1 7) (x2 : Nat) (hx2 : zObj S x2 8) (x3 : Nat) (hx3 : zArr S x3 3) (x4 : Nat) (hx4 : zArr S x4 4) (x5 : Int32) (y0 : Int32) (L : Nat) (xs : Nat → Int32) (hL9 : E.L = L) (hx9 : E.xs = xs) (kn qn : Nat) (k28 : (Int32 × (Nat → Nat → Int64) × (Nat → Nat → UInt64) × Zw) → Option (Int32 × (Nat → Nat → Int64) × (Nat → Nat → UInt64) × Zw)) (hk28 : ∀ a : Int32 × (Nat → Nat → Int64) × (Nat → Nat → UInt64) × Zw, zOk (E, i_L_law, 100) kn qn (zSc S a.2.1 a.2.2.1) a.2.2.2 28 [(0, .ref x0), (1, .ref x1), (2, .ref x2), (3, .ref x3), (4, .ref x4), (5, .int a.1)] [] (emS eI S) (k28 a)) : zOk (E, i_L_law, 100) kn qn S w 1830 [(0, .ref x0), (1, .ref x1), (2, .ref x2), (3, .ref x3), (4, .ref x4), (5, .int x5)] [.int y0] (emS eI S) (f_L_law_j1830 S L xs w x0 x1 x2 x3 x4 x5 y0 k28) := by
  unfold f_L_law_j1830
  refine z_istore (lv' := [(6, .int y0), (0, .ref x0), (1, .ref x1), (2, .ref x2), (3, .ref x3), (4, .ref x4), (5, .int x5)]) dL_law_1830 (Nat.le_of_ble_eq_true rfl) rfl (z_aload_n 3 dL_law_1832 rfl ?_)
  refine z_bind (fun r309 hb310 => ?_)
  refine z_callV (kc' := kn) (ks' := qn) (v := (some (.int r309.1))) (S1 := S) (w1 := r309.2) (st := []) [] (m_X8_perform hW w x2 hx2 r309 hb310) zc8 hx2 zy_X8_perform gw1471 gw1472 gw1470 (Nat.le_of_ble_eq_true rfl) (Nat.le_of_ble_eq_true rfl) (Nat.le_of_eq (Nat.zero_add _)) (Nat.le_of_eq (Nat.zero_add _)) (zal hW) rfl dL_law_1833 (z_at 1836 _ [.int r309.1] rfl rfl rfl ?_)
  refine z_istore (lv' := [(7, .int r309.1), (6, .int y0), (0, .ref x0), (1, .ref x1), (2, .ref x2), (3, .ref x3), (4, .ref x4), (5, .int x5)]) dL_law_1836 (Nat.le_of_ble_eq_true rfl) rfl (z_aload_n 4 dL_law_1838 rfl ?_)
  refine z_callV (kc' := kn) (ks' := qn) (v := (some (.int (f_X8_thrown S r309.2 x2)))) (S1 := S) (w1 := r309.2) (st := []) [] (m_X8_thrown hW r309.2 x2 hx2) zc8 hx2 zy_X8_thrown gw1098 gw1099 gw1097 (Nat.le_of_ble_eq_true rfl) (Nat.le_of_ble_eq_true rfl) (Nat.le_of_eq (Nat.zero_add _)) (Nat.le_of_eq (Nat.zero_add _)) (zal hW) rfl dL_law_1839 (z_at 1842 _ [.int (f_X8_thrown S r309.2 x2)] rfl rfl rfl ?_)
  refine z_iload 1 dL_law_1842 rfl ?_
  refine z_icmp_eq 1849 dL_law_1844 rfl (fun q311 => ?_) (fun q311 => ?_)
  · refine z_iload 1 dL_law_1849 rfl ?_
    refine z_if_ne 1866 dL_law_1851 rfl (fun q312 => ?_) (fun q312 => ?_)
    · refine z_goto 1970 dL_law_1866 rfl (z_iinc (v := (x5 + (4 : Int32))) (lv' := [(5, .int (x5 + (4 : Int32))), (7, .int r309.1), (6, .int y0), (0, .ref x0), (1, .ref x1), (2, .ref x2), (3, .ref x3), (4, .ref x4)]) 7 dL_law_1970 rfl (zi_inc _ zi_4) (Nat.le_of_ble_eq_true rfl) rfl (z_goto 28 dL_law_1973 rfl ?_))
      refine z_sub (lv' := [(0, .ref x0), (1, .ref x1), (2, .ref x2), (3, .ref x3), (4, .ref x4), (5, .int (x5 + (4 : Int32)))]) [3, 4, 5, 6, 7, 0] rfl ?_
      refine z_pc (pc' := 28) rfl ?_
      exact hk28 ((x5 + (4 : Int32)), S.cl, S.cd, r309.2)
    · refine z_aload_n 5 dL_law_1854 rfl (z_iconst dL_law_1855 zi_0 ?_)
      refine z_chk (fun c313 => ?_)
      refine z_lald hx3 c313 dL_law_1856 (z_iload 0 dL_law_1857 rfl (z_i2l (v := (r309.1).toInt64) dL_law_1859 rfl (z_lcmp dL_law_1860 ?_)))
      refine z_if_eq 1866 dL_law_1861 rfl (fun q314 => ?_) (fun q314 => ?_)
      · refine z_goto 1970 dL_law_1866 rfl (z_iinc (v := (x5 + (4 : Int32))) (lv' := [(5, .int (x5 + (4 : Int32))), (7, .int r309.1), (6, .int y0), (0, .ref x0), (1, .ref x1), (2, .ref x2), (3, .ref x3), (4, .ref x4)]) 7 dL_law_1970 rfl (zi_inc _ zi_4) (Nat.le_of_ble_eq_true rfl) rfl (z_goto 28 dL_law_1973 rfl ?_))
        refine z_sub (lv' := [(0, .ref x0), (1, .ref x1), (2, .ref x2), (3, .ref x3), (4, .ref x4), (5, .int (x5 + (4 : Int32)))]) [3, 4, 5, 6, 7, 0] rfl ?_
        refine z_pc (pc' := 28) rfl ?_
        exact hk28 ((x5 + (4 : Int32)), S.cl, S.cd, r309.2)
      · refine z_iconst dL_law_1864 zi_0 ?_
        exact z_zret zemS rfl rfl dL_law_1865
  · refine z_iconst dL_law_1847 zi_0 ?_
    exact z_zret zemS rfl rfl dL_law_1848

def f_L_law_j1874 (S : Zs) (L : Nat) (xs : Nat → Int32) (w : Zw) (x0 : Nat) (x1 : Nat) (x2 : Nat) (x3 : Nat) (x4 : Nat) (x5 : Int32) (y0 : Int32) (k28 : (Int32 × (Nat → Nat → Int64) × (Nat → Nat → UInt64) × Zw) → Option (Int32 × (Nat → Nat → Int64) × (Nat → Nat → UInt64) × Zw)) : Option (Int32 × (Nat → Nat → Int64) × (Nat → Nat → UInt64) × Zw) :=
  (f_X8_undo S w x2).bind fun r318 => if (f_X8_thrown S r318.2 x2) = y0 then (if y0 = 0 then (if zin (0 : Int32) (zlen S x3) = true then if (lg_cmp (S.cl x3 (zix (0 : Int32))) ((r318.1).toInt64)) = 0 then k28 ((x5 + (4 : Int32)), S.cl, S.cd, r318.2) else some ((0 : Int32), S.cl, S.cd, r318.2) else none) else k28 ((x5 + (4 : Int32)), S.cl, S.cd, r318.2)) else some ((0 : Int32), S.cl, S.cd, r318.2)
theorem m_L_law_j1874 {E : ZE} {S : Zs} (hW : zWF S) (w : Zw) (x0 : Nat) (hx0 : x0 = 0) (x1 : Nat) (hx1 : zObj S x1 7) (x2 : Nat) (hx2 : zObj S x2 8) (x3 : Nat) (hx3 : zArr S x3 3) (x4 : Nat) (hx4 : zArr S x4 4) (x5 : Int32) (y0 : Int32) (L : Nat) (xs : Nat → Int32) (hL9 : E.L = L) (hx9 : E.xs = xs) (kn qn : Nat) (k28 : (Int32 × (Nat → Nat → Int64) × (Nat → Nat → UInt64) × Zw) → Option (Int32 × (Nat → Nat → Int64) × (Nat → Nat → UInt64) × Zw)) (hk28 : ∀ a : Int32 × (Nat → Nat → Int64) × (Nat → Nat → UInt64) × Zw, zOk (E, i_L_law, 100) kn qn (zSc S a.2.1 a.2.2.1) a.2.2.2 28 [(0, .ref x0), (1, .ref x1), (2, .ref x2), (3, .ref x3), (4, .ref x4), (5, .int a.1)] [] (emS eI S) (k28 a)) : zOk (E, i_L_law, 100) kn qn S w 1874 [(0, .ref x0), (1, .ref x1), (2, .ref x2), (3, .ref x3), (4, .ref x4), (5, .int x5)] [.int y0] (emS eI S) (f_L_law_j1874 S L xs w x0 x1 x2 x3 x4 x5 y0 k28) := by
  unfold f_L_law_j1874
  refine z_istore (lv' := [(6, .int y0), (0, .ref x0), (1, .ref x1), (2, .ref x2), (3, .ref x3), (4, .ref x4), (5, .int x5)]) dL_law_1874 (Nat.le_of_ble_eq_true rfl) rfl (z_aload_n 3 dL_law_1876 rfl ?_)
  refine z_bind (fun r318 hb319 => ?_)
  refine z_callV (kc' := kn) (ks' := qn) (v := (some (.int r318.1))) (S1 := S) (w1 := r318.2) (st := []) [] (m_X8_undo hW w x2 hx2 r318 hb319) zc8 hx2 zy_X8_undo gw1495 gw1496 gw1494 (Nat.le_of_ble_eq_true rfl) (Nat.le_of_ble_eq_true rfl) (Nat.le_of_eq (Nat.zero_add _)) (Nat.le_of_eq (Nat.zero_add _)) (zal hW) rfl dL_law_1877 (z_at 1880 _ [.int r318.1] rfl rfl rfl ?_)
  refine z_istore (lv' := [(7, .int r318.1), (6, .int y0), (0, .ref x0), (1, .ref x1), (2, .ref x2), (3, .ref x3), (4, .ref x4), (5, .int x5)]) dL_law_1880 (Nat.le_of_ble_eq_true rfl) rfl (z_aload_n 4 dL_law_1882 rfl ?_)
  refine z_callV (kc' := kn) (ks' := qn) (v := (some (.int (f_X8_thrown S r318.2 x2)))) (S1 := S) (w1 := r318.2) (st := []) [] (m_X8_thrown hW r318.2 x2 hx2) zc8 hx2 zy_X8_thrown gw1098 gw1099 gw1097 (Nat.le_of_ble_eq_true rfl) (Nat.le_of_ble_eq_true rfl) (Nat.le_of_eq (Nat.zero_add _)) (Nat.le_of_eq (Nat.zero_add _)) (zal hW) rfl dL_law_1883 (z_at 1886 _ [.int (f_X8_thrown S r318.2 x2)] rfl rfl rfl ?_)
  refine z_iload 1 dL_law_1886 rfl ?_
  refine z_icmp_eq 1893 dL_law_1888 rfl (fun q320 => ?_) (fun q320 => ?_)
  · refine z_iload 1 dL_law_1893 rfl ?_
    refine z_if_ne 1910 dL_law_1895 rfl (fun q321 => ?_) (fun q321 => ?_)
    · refine z_goto 1970 dL_law_1910 rfl (z_iinc (v := (x5 + (4 : Int32))) (lv' := [(5, .int (x5 + (4 : Int32))), (7, .int r318.1), (6, .int y0), (0, .ref x0), (1, .ref x1), (2, .ref x2), (3, .ref x3), (4, .ref x4)]) 7 dL_law_1970 rfl (zi_inc _ zi_4) (Nat.le_of_ble_eq_true rfl) rfl (z_goto 28 dL_law_1973 rfl ?_))
      refine z_sub (lv' := [(0, .ref x0), (1, .ref x1), (2, .ref x2), (3, .ref x3), (4, .ref x4), (5, .int (x5 + (4 : Int32)))]) [3, 4, 5, 6, 7, 0] rfl ?_
      refine z_pc (pc' := 28) rfl ?_
      exact hk28 ((x5 + (4 : Int32)), S.cl, S.cd, r318.2)
    · refine z_aload_n 5 dL_law_1898 rfl (z_iconst dL_law_1899 zi_0 ?_)
      refine z_chk (fun c322 => ?_)
      refine z_lald hx3 c322 dL_law_1900 (z_iload 0 dL_law_1901 rfl (z_i2l (v := (r318.1).toInt64) dL_law_1903 rfl (z_lcmp dL_law_1904 ?_)))
      refine z_if_eq 1910 dL_law_1905 rfl (fun q323 => ?_) (fun q323 => ?_)
      · refine z_goto 1970 dL_law_1910 rfl (z_iinc (v := (x5 + (4 : Int32))) (lv' := [(5, .int (x5 + (4 : Int32))), (7, .int r318.1), (6, .int y0), (0, .ref x0), (1, .ref x1), (2, .ref x2), (3, .ref x3), (4, .ref x4)]) 7 dL_law_1970 rfl (zi_inc _ zi_4) (Nat.le_of_ble_eq_true rfl) rfl (z_goto 28 dL_law_1973 rfl ?_))
        refine z_sub (lv' := [(0, .ref x0), (1, .ref x1), (2, .ref x2), (3, .ref x3), (4, .ref x4), (5, .int (x5 + (4 : Int32)))]) [3, 4, 5, 6, 7, 0] rfl ?_
        refine z_pc (pc' := 28) rfl ?_
        exact hk28 ((x5 + (4 : Int32)), S.cl, S.cd, r318.2)
      · refine z_iconst dL_law_1908 zi_0 ?_
        exact z_zret zemS rfl rfl dL_law_1909
  · refine z_iconst dL_law_1891 zi_0 ?_
    exact z_zret zemS rfl rfl dL_law_1892

def f_L_law_j1931 (S : Zs) (L : Nat) (xs : Nat → Int32) (w : Zw) (x0 : Nat) (x1 : Nat) (x2 : Nat) (x3 : Nat) (x4 : Nat) (x5 : Int32) (y0 : Int32) (k28 : (Int32 × (Nat → Nat → Int64) × (Nat → Nat → UInt64) × Zw) → Option (Int32 × (Nat → Nat → Int64) × (Nat → Nat → UInt64) × Zw)) : Option (Int32 × (Nat → Nat → Int64) × (Nat → Nat → UInt64) × Zw) :=
  (f_X8_restore S w x2).bind fun r333 => if (f_X8_thrown S r333.2 x2) = y0 then (if y0 = 0 then (if zin (0 : Int32) (zlen S x3) = true then if (lg_cmp (S.cl x3 (zix (0 : Int32))) ((r333.1).toInt64)) = 0 then k28 ((x5 + (4 : Int32)), S.cl, S.cd, r333.2) else some ((0 : Int32), S.cl, S.cd, r333.2) else none) else k28 ((x5 + (4 : Int32)), S.cl, S.cd, r333.2)) else some ((0 : Int32), S.cl, S.cd, r333.2)
theorem m_L_law_j1931 {E : ZE} {S : Zs} (hW : zWF S) (w : Zw) (x0 : Nat) (hx0 : x0 = 0) (x1 : Nat) (hx1 : zObj S x1 7) (x2 : Nat) (hx2 : zObj S x2 8) (x3 : Nat) (hx3 : zArr S x3 3) (x4 : Nat) (hx4 : zArr S x4 4) (x5 : Int32) (y0 : Int32) (L : Nat) (xs : Nat → Int32) (hL9 : E.L = L) (hx9 : E.xs = xs) (kn qn : Nat) (k28 : (Int32 × (Nat → Nat → Int64) × (Nat → Nat → UInt64) × Zw) → Option (Int32 × (Nat → Nat → Int64) × (Nat → Nat → UInt64) × Zw)) (hk28 : ∀ a : Int32 × (Nat → Nat → Int64) × (Nat → Nat → UInt64) × Zw, zOk (E, i_L_law, 100) kn qn (zSc S a.2.1 a.2.2.1) a.2.2.2 28 [(0, .ref x0), (1, .ref x1), (2, .ref x2), (3, .ref x3), (4, .ref x4), (5, .int a.1)] [] (emS eI S) (k28 a)) : zOk (E, i_L_law, 100) kn qn S w 1931 [(0, .ref x0), (1, .ref x1), (2, .ref x2), (3, .ref x3), (4, .ref x4), (5, .int x5)] [.int y0] (emS eI S) (f_L_law_j1931 S L xs w x0 x1 x2 x3 x4 x5 y0 k28) := by
  unfold f_L_law_j1931
  refine z_istore (lv' := [(6, .int y0), (0, .ref x0), (1, .ref x1), (2, .ref x2), (3, .ref x3), (4, .ref x4), (5, .int x5)]) dL_law_1931 (Nat.le_of_ble_eq_true rfl) rfl (z_aload_n 3 dL_law_1933 rfl ?_)
  refine z_bind (fun r333 hb334 => ?_)
  refine z_callV (kc' := kn) (ks' := qn) (v := (some (.int r333.1))) (S1 := S) (w1 := r333.2) (st := []) [] (m_X8_restore hW w x2 hx2 r333 hb334) zc8 hx2 zy_X8_restore gw1507 gw1508 gw1506 (Nat.le_of_ble_eq_true rfl) (Nat.le_of_ble_eq_true rfl) (Nat.le_of_eq (Nat.zero_add _)) (Nat.le_of_eq (Nat.zero_add _)) (zal hW) rfl dL_law_1934 (z_at 1937 _ [.int r333.1] rfl rfl rfl ?_)
  refine z_istore (lv' := [(7, .int r333.1), (6, .int y0), (0, .ref x0), (1, .ref x1), (2, .ref x2), (3, .ref x3), (4, .ref x4), (5, .int x5)]) dL_law_1937 (Nat.le_of_ble_eq_true rfl) rfl (z_aload_n 4 dL_law_1939 rfl ?_)
  refine z_callV (kc' := kn) (ks' := qn) (v := (some (.int (f_X8_thrown S r333.2 x2)))) (S1 := S) (w1 := r333.2) (st := []) [] (m_X8_thrown hW r333.2 x2 hx2) zc8 hx2 zy_X8_thrown gw1098 gw1099 gw1097 (Nat.le_of_ble_eq_true rfl) (Nat.le_of_ble_eq_true rfl) (Nat.le_of_eq (Nat.zero_add _)) (Nat.le_of_eq (Nat.zero_add _)) (zal hW) rfl dL_law_1940 (z_at 1943 _ [.int (f_X8_thrown S r333.2 x2)] rfl rfl rfl ?_)
  refine z_iload 1 dL_law_1943 rfl ?_
  refine z_icmp_eq 1950 dL_law_1945 rfl (fun q335 => ?_) (fun q335 => ?_)
  · refine z_iload 1 dL_law_1950 rfl ?_
    refine z_if_ne 1967 dL_law_1952 rfl (fun q336 => ?_) (fun q336 => ?_)
    · refine z_goto 1970 dL_law_1967 rfl (z_iinc (v := (x5 + (4 : Int32))) (lv' := [(5, .int (x5 + (4 : Int32))), (7, .int r333.1), (6, .int y0), (0, .ref x0), (1, .ref x1), (2, .ref x2), (3, .ref x3), (4, .ref x4)]) 7 dL_law_1970 rfl (zi_inc _ zi_4) (Nat.le_of_ble_eq_true rfl) rfl (z_goto 28 dL_law_1973 rfl ?_))
      refine z_sub (lv' := [(0, .ref x0), (1, .ref x1), (2, .ref x2), (3, .ref x3), (4, .ref x4), (5, .int (x5 + (4 : Int32)))]) [3, 4, 5, 6, 7, 0] rfl ?_
      refine z_pc (pc' := 28) rfl ?_
      exact hk28 ((x5 + (4 : Int32)), S.cl, S.cd, r333.2)
    · refine z_aload_n 5 dL_law_1955 rfl (z_iconst dL_law_1956 zi_0 ?_)
      refine z_chk (fun c337 => ?_)
      refine z_lald hx3 c337 dL_law_1957 (z_iload 0 dL_law_1958 rfl (z_i2l (v := (r333.1).toInt64) dL_law_1960 rfl (z_lcmp dL_law_1961 ?_)))
      refine z_if_eq 1967 dL_law_1962 rfl (fun q338 => ?_) (fun q338 => ?_)
      · refine z_goto 1970 dL_law_1967 rfl (z_iinc (v := (x5 + (4 : Int32))) (lv' := [(5, .int (x5 + (4 : Int32))), (7, .int r333.1), (6, .int y0), (0, .ref x0), (1, .ref x1), (2, .ref x2), (3, .ref x3), (4, .ref x4)]) 7 dL_law_1970 rfl (zi_inc _ zi_4) (Nat.le_of_ble_eq_true rfl) rfl (z_goto 28 dL_law_1973 rfl ?_))
        refine z_sub (lv' := [(0, .ref x0), (1, .ref x1), (2, .ref x2), (3, .ref x3), (4, .ref x4), (5, .int (x5 + (4 : Int32)))]) [3, 4, 5, 6, 7, 0] rfl ?_
        refine z_pc (pc' := 28) rfl ?_
        exact hk28 ((x5 + (4 : Int32)), S.cl, S.cd, r333.2)
      · refine z_iconst dL_law_1965 zi_0 ?_
        exact z_zret zemS rfl rfl dL_law_1966
  · refine z_iconst dL_law_1948 zi_0 ?_
    exact z_zret zemS rfl rfl dL_law_1949

def f_law_b (S : Zs) (L : Nat) (xs : Nat → Int32) (x0 x1 x2 x3 x4 : Nat) (k : (Int32 × (Nat → Nat → Int64) × (Nat → Nat → UInt64) × Zw) → Option (Int32 × (Nat → Nat → Int64) × (Nat → Nat → UInt64) × Zw)) (x5 : Int32) (w : Zw) : Option (Int32 × (Nat → Nat → Int64) × (Nat → Nat → UInt64) × Zw) :=
  if ((Int32.ofNat L) - (4 : Int32)) < x5 then some ((1 : Int32), S.cl, S.cd, w) else if zin x5 L = true then if ((xs (zix x5)) &&& (31 : Int32)) = (0 : Int32) then (if zin (x5 + (1 : Int32)) L = true then if zin (x5 + (2 : Int32)) L = true then (f_L_store S w x1 (xs (zix (x5 + (1 : Int32)))) (xs (zix (x5 + (2 : Int32)))) x3).bind fun r6 => f_L_law_j193 (zSc S r6.2.1 r6.2.2.1) L xs r6.2.2.2 x0 x1 x2 x3 x4 x5 r6.1 k  else none else none) else if ((xs (zix x5)) &&& (31 : Int32)) = (1 : Int32) then (if zin (x5 + (1 : Int32)) L = true then (f_L_retrieve S w x1 (xs (zix (x5 + (1 : Int32)))) x3).bind fun r18 => f_L_law_j255 (zSc S r18.2.1 r18.2.2.1) L xs r18.2.2.2 x0 x1 x2 x3 x4 x5 r18.1 k  else none) else if ((xs (zix x5)) &&& (31 : Int32)) = (2 : Int32) then (if zin (x5 + (1 : Int32)) L = true then if zin (x5 + (2 : Int32)) L = true then (f_L_book S w x1 (xs (zix (x5 + (1 : Int32)))) (xs (zix (x5 + (2 : Int32)))) x3).bind fun r30 => f_L_law_j317 (zSc S r30.2.1 r30.2.2.1) L xs r30.2.2.2 x0 x1 x2 x3 x4 x5 r30.1 k  else none else none) else if ((xs (zix x5)) &&& (31 : Int32)) = (3 : Int32) then (if zin (x5 + (1 : Int32)) L = true then if zin (x5 + (2 : Int32)) L = true then (f_L_car S w x1 (xs (zix (x5 + (1 : Int32)))) (xs (zix (x5 + (2 : Int32)))) x3).bind fun r43 => f_L_law_j385 (zSc S r43.2.1 r43.2.2.1) L xs r43.2.2.2 x0 x1 x2 x3 x4 x5 r43.1 k  else none else none) else if ((xs (zix x5)) &&& (31 : Int32)) = (4 : Int32) then (if zin (x5 + (1 : Int32)) L = true then (f_L_due S w x1 (xs (zix (x5 + (1 : Int32)))) x3).bind fun r55 => f_L_law_j447 (zSc S r55.2.1 r55.2.2.1) L xs r55.2.2.2 x0 x1 x2 x3 x4 x5 r55.1 k  else none) else if ((xs (zix x5)) &&& (31 : Int32)) = (5 : Int32) then (if zin (x5 + (1 : Int32)) L = true then if zin (x5 + (2 : Int32)) L = true then if (xs (zix (x5 + (2 : Int32)))) = 0 then f_L_law_j512 S L xs w x0 x1 x2 x3 x4 x5 (0 : Int32) ((xs (zix (x5 + (1 : Int32))))) x1 k  else f_L_law_j512 S L xs w x0 x1 x2 x3 x4 x5 (1 : Int32) ((xs (zix (x5 + (1 : Int32))))) x1 k  else none else none) else if ((xs (zix x5)) &&& (31 : Int32)) = (6 : Int32) then (if zin (x5 + (1 : Int32)) L = true then if zin (x5 + (2 : Int32)) L = true then (f_L_bay S w x1 (xs (zix (x5 + (1 : Int32)))) (xs (zix (x5 + (2 : Int32)))) x3).bind fun r83 => f_L_law_j599 (zSc S r83.2.1 r83.2.2.1) L xs r83.2.2.2 x0 x1 x2 x3 x4 x5 r83.1 k  else none else none) else if ((xs (zix x5)) &&& (31 : Int32)) = (7 : Int32) then (if zin (x5 + (1 : Int32)) L = true then if zin (x5 + (2 : Int32)) L = true then (f_L_choice S w x1 (xs (zix (x5 + (1 : Int32)))) (xs (zix (x5 + (2 : Int32)))) x3).bind fun r96 => f_L_law_j667 (zSc S r96.2.1 r96.2.2.1) L xs r96.2.2.2 x0 x1 x2 x3 x4 x5 r96.1 k  else none else none) else if ((xs (zix x5)) &&& (31 : Int32)) = (8 : Int32) then (if zin (x5 + (1 : Int32)) L = true then (f_L_refuge S w x1 (xs (zix (x5 + (1 : Int32)))) x3).bind fun r108 => f_L_law_j729 (zSc S r108.2.1 r108.2.2.1) L xs r108.2.2.2 x0 x1 x2 x3 x4 x5 r108.1 k  else none) else if ((xs (zix x5)) &&& (31 : Int32)) = (9 : Int32) then (if zin (x5 + (1 : Int32)) L = true then (f_L_bays S w x1 (xs (zix (x5 + (1 : Int32)))) x3).bind fun r119 => f_L_law_j785 (zSc S r119.2.1 r119.2.2.1) L xs r119.2.2.2 x0 x1 x2 x3 x4 x5 r119.1 k  else none) else if ((xs (zix x5)) &&& (31 : Int32)) = (10 : Int32) then (if zin (x5 + (1 : Int32)) L = true then if zin (x5 + (2 : Int32)) L = true then (f_L_bestMoves S w x1 ((zlshl (((xs (zix (x5 + (1 : Int32))))).toInt64) (32 : Int32)) ||| (((xs (zix (x5 + (2 : Int32))))).toInt64 &&& (4294967295 : Int64))) x3).bind fun r131 => f_L_law_j857 (zSc S r131.2.1 r131.2.2.1) L xs r131.2.2.2 x0 x1 x2 x3 x4 x5 r131.1 k  else none else none) else if ((xs (zix x5)) &&& (31 : Int32)) = (11 : Int32) then (if zin (x5 + (1 : Int32)) L = true then if zin (x5 + (2 : Int32)) L = true then (f_L_bestEnd S w x1 ((zlshl (((xs (zix (x5 + (1 : Int32))))).toInt64) (32 : Int32)) ||| (((xs (zix (x5 + (2 : Int32))))).toInt64 &&& (4294967295 : Int64))) x3).bind fun r144 => f_L_law_j945 (zSc S r144.2.1 r144.2.2.1) L xs r144.2.2.2 x0 x1 x2 x3 x4 x5 r144.1 k  else none else none) else if ((xs (zix x5)) &&& (31 : Int32)) = (12 : Int32) then (if zin (x5 + (1 : Int32)) L = true then if zin (x5 + (2 : Int32)) L = true then if zin (x5 + (3 : Int32)) L = true then (f_L_bestCar S w x1 ((zlshl (((xs (zix (x5 + (1 : Int32))))).toInt64) (32 : Int32)) ||| (((xs (zix (x5 + (2 : Int32))))).toInt64 &&& (4294967295 : Int64))) (xs (zix (x5 + (3 : Int32)))) x3).bind fun r158 => f_L_law_j1039 (zSc S r158.2.1 r158.2.2.1) L xs r158.2.2.2 x0 x1 x2 x3 x4 x5 r158.1 k  else none else none else none) else if ((xs (zix x5)) &&& (31 : Int32)) = (13 : Int32) then (if zin (x5 + (1 : Int32)) L = true then if zin (x5 + (2 : Int32)) L = true then (f_L_plainMoves S w x1 ((zlshl (((xs (zix (x5 + (1 : Int32))))).toInt64) (32 : Int32)) ||| (((xs (zix (x5 + (2 : Int32))))).toInt64 &&& (4294967295 : Int64))) x3).bind fun r172 => f_L_law_j1133 (zSc S r172.2.1 r172.2.2.1) L xs r172.2.2.2 x0 x1 x2 x3 x4 x5 r172.1 k  else none else none) else if ((xs (zix x5)) &&& (31 : Int32)) = (14 : Int32) then (if zin (x5 + (1 : Int32)) L = true then if zin (x5 + (2 : Int32)) L = true then (f_L_retrieveAll S w x1 ((zlshl (((xs (zix (x5 + (1 : Int32))))).toInt64) (32 : Int32)) ||| (((xs (zix (x5 + (2 : Int32))))).toInt64 &&& (4294967295 : Int64))) x3).bind fun r185 => f_L_law_j1221 (zSc S r185.2.1 r185.2.2.1) L xs r185.2.2.2 x0 x1 x2 x3 x4 x5 r185.1 k  else none else none) else if ((xs (zix x5)) &&& (31 : Int32)) = (15 : Int32) then ((f_X7_tidy S w x1).bind fun r196 => (f_X8_tidy S r196.2 x2).bind fun r198 => if r196.1 = r198.1 then k ((x5 + (4 : Int32)), S.cl, S.cd, r198.2) else some ((0 : Int32), S.cl, S.cd, r198.2)) else if ((xs (zix x5)) &&& (31 : Int32)) = (16 : Int32) then (if zin (x5 + (1 : Int32)) L = true then (f_L_pass S w x1 (xs (zix (x5 + (1 : Int32)))) x3).bind fun r203 => f_L_law_j1306 (zSc S r203.2.1 r203.2.2.1) L xs r203.2.2.2 x0 x1 x2 x3 x4 x5 r203.1 k  else none) else if ((xs (zix x5)) &&& (31 : Int32)) = (17 : Int32) then (if zin (x5 + (1 : Int32)) L = true then if zin (x5 + (2 : Int32)) L = true then (f_L_machine S w x1 (xs (zix (x5 + (1 : Int32)))) (xs (zix (x5 + (2 : Int32)))) x3).bind fun r215 => f_L_law_j1368 (zSc S r215.2.1 r215.2.2.1) L xs r215.2.2.2 x0 x1 x2 x3 x4 x5 r215.1 k  else none else none) else if ((xs (zix x5)) &&& (31 : Int32)) = (18 : Int32) then ((f_X8_jobs S w x2).bind fun v226 => if (f_X7_jobs S w x1) = v226 then k ((x5 + (4 : Int32)), S.cl, S.cd, w) else some ((0 : Int32), S.cl, S.cd, w)) else if ((xs (zix x5)) &&& (31 : Int32)) = (19 : Int32) then (if zin (x5 + (1 : Int32)) L = true then if zin (x5 + (2 : Int32)) L = true then (f_L_job S w x1 (xs (zix (x5 + (1 : Int32)))) (xs (zix (x5 + (2 : Int32)))) x3).bind fun r232 => f_L_law_j1449 (zSc S r232.2.1 r232.2.2.1) L xs r232.2.2.2 x0 x1 x2 x3 x4 x5 r232.1 k  else none else none) else if ((xs (zix x5)) &&& (31 : Int32)) = (20 : Int32) then (if zin (x5 + (1 : Int32)) L = true then (f_L_account S w x1 (xs (zix (x5 + (1 : Int32)))) x3).bind fun r244 => f_L_law_j1511 (zSc S r244.2.1 r244.2.2.1) L xs r244.2.2.2 x0 x1 x2 x3 x4 x5 r244.1 k  else none) else if ((xs (zix x5)) &&& (31 : Int32)) = (21 : Int32) then (if zin (x5 + (1 : Int32)) L = true then (f_L_load S w x1 (xs (zix (x5 + (1 : Int32)))) x4).bind fun r255 => f_L_law_j1568 (zSc S r255.2.1 r255.2.2.1) L xs r255.2.2.2 x0 x1 x2 x3 x4 x5 r255.1 k  else none) else if ((xs (zix x5)) &&& (31 : Int32)) = (22 : Int32) then ((f_L_meanJob S w x1 x4).bind fun r270 => f_L_law_j1640 (zSc S r270.2.1 r270.2.2.1) L xs r270.2.2.2 x0 x1 x2 x3 x4 x5 r270.1 k ) else if ((xs (zix x5)) &&& (31 : Int32)) = (23 : Int32) then (if zin (x5 + (1 : Int32)) L = true then if zin (x5 + (2 : Int32)) L = true then (f_L_report S w x1 (xs (zix (x5 + (1 : Int32)))) (xs (zix (x5 + (2 : Int32)))) x3).bind fun r285 => f_L_law_j1716 (zSc S r285.2.1 r285.2.2.1) L xs r285.2.2.2 x0 x1 x2 x3 x4 x5 r285.1 k  else none else none) else if ((xs (zix x5)) &&& (31 : Int32)) = (24 : Int32) then (if zin (x5 + (1 : Int32)) L = true then (f_L_feed S w x1 (zi2c ((xs (zix (x5 + (1 : Int32)))))) x3).bind fun r297 => f_L_law_j1779 (zSc S r297.2.1 r297.2.2.1) L xs r297.2.2.2 x0 x1 x2 x3 x4 x5 r297.1 k  else none) else if ((xs (zix x5)) &&& (31 : Int32)) = (25 : Int32) then ((f_L_perform S w x1 x3).bind fun r307 => f_L_law_j1830 (zSc S r307.2.1 r307.2.2.1) L xs r307.2.2.2 x0 x1 x2 x3 x4 x5 r307.1 k ) else if ((xs (zix x5)) &&& (31 : Int32)) = (26 : Int32) then ((f_L_undo S w x1 x3).bind fun r316 => f_L_law_j1874 (zSc S r316.2.1 r316.2.2.1) L xs r316.2.2.2 x0 x1 x2 x3 x4 x5 r316.1 k ) else if ((xs (zix x5)) &&& (31 : Int32)) = (27 : Int32) then ((f_X7_save S w x1).bind fun r325 => (f_X8_save S r325.2 x2).bind fun r327 => if r325.1 = r327.1 then k ((x5 + (4 : Int32)), S.cl, S.cd, r327.2) else some ((0 : Int32), S.cl, S.cd, r327.2)) else if ((xs (zix x5)) &&& (31 : Int32)) = (28 : Int32) then ((f_L_restore S w x1 x3).bind fun r331 => f_L_law_j1931 (zSc S r331.2.1 r331.2.2.1) L xs r331.2.2.2 x0 x1 x2 x3 x4 x5 r331.1 k ) else (k ((x5 + (4 : Int32)), S.cl, S.cd, w)) else none
theorem m_law_b {E : ZE} {S : Zs} (hW : zWF S) (x0 : Nat) (hx0 : x0 = 0) (x1 : Nat) (hx1 : zObj S x1 7) (x2 : Nat) (hx2 : zObj S x2 8) (x3 : Nat) (hx3 : zArr S x3 3) (x4 : Nat) (hx4 : zArr S x4 4) (L : Nat) (xs : Nat → Int32) (hL9 : E.L = L) (hx9 : E.xs = xs) (kn qn : Nat) (k : (Int32 × (Nat → Nat → Int64) × (Nat → Nat → UInt64) × Zw) → Option (Int32 × (Nat → Nat → Int64) × (Nat → Nat → UInt64) × Zw)) (hk : ∀ a : Int32 × (Nat → Nat → Int64) × (Nat → Nat → UInt64) × Zw, zOk (E, i_L_law, 100) kn qn (zSc S a.2.1 a.2.2.1) a.2.2.2 28 [(0, .ref x0), (1, .ref x1), (2, .ref x2), (3, .ref x3), (4, .ref x4), (5, .int a.1)] [] (emS eI S) (k a)) (x5 : Int32) (w : Zw) : zOk (E, i_L_law, 100) (kn + 2) (qn + 12) S w 28 [(0, .ref x0), (1, .ref x1), (2, .ref x2), (3, .ref x3), (4, .ref x4), (5, .int x5)] [] (emS eI S) (f_law_b S L xs x0 x1 x2 x3 x4 k x5 w) := by
  unfold f_law_b
  refine z_iload 5 dL_law_28 rfl (z_aload_n 0 dL_law_30 rfl (z_slenE hL9 hx0 dL_law_31 (z_iconst dL_law_32 zi_4 (z_isub dL_law_33 ?_))))
  refine z_icmp_gt 1976 dL_law_34 rfl (fun q1 => ?_) (fun q1 => ?_)
  · refine z_iconst dL_law_1976 zi_1 ?_
    exact z_zret zemS rfl rfl dL_law_1977
  · refine z_aload_n 0 dL_law_37 rfl (z_iload 5 dL_law_38 rfl ?_)
    refine z_chk (fun c2 => ?_)
    refine z_sldE hL9 hx9 hx0 c2 dL_law_40 (z_bipush dL_law_41 zb_31 (z_iand dL_law_43 ?_))
    refine z_ite _ (fun q3 => ?_) (fun q3 => ?_)
    · refine z_tabIn (off := 132) 176 dL_law_44 (by rw [q3]; decide) (by rw [q3]; decide) (by rw [q3]; decide) rfl ?_
      refine z_aload_n 1 dL_law_176 rfl (z_aload_n 0 dL_law_177 rfl (z_iload 5 dL_law_178 rfl (z_iconst dL_law_180 zi_1 (z_iadd dL_law_181 ?_))))
      refine z_chk (fun c4 => ?_)
      refine z_sldE hL9 hx9 hx0 c4 dL_law_182 (z_aload_n 0 dL_law_183 rfl (z_iload 5 dL_law_184 rfl (z_iconst dL_law_186 zi_2 (z_iadd dL_law_187 ?_))))
      refine z_chk (fun c5 => ?_)
      refine z_sldE hL9 hx9 hx0 c5 dL_law_188 (z_aload_n 3 dL_law_189 rfl ?_)
      refine z_bind (fun r6 hb7 => ?_)
      refine z_callSH (kc' := kn) (ks' := qn) (v := some (.int r6.1)) (S1 := (zSc S r6.2.1 r6.2.2.1)) (w1 := r6.2.2.2) (st := []) [.ref x1, .int (xs (zix (x5 + (1 : Int32)))), .int (xs (zix (x5 + (2 : Int32)))), .ref x3] (m_L_store hW w x1 hx1 (xs (zix (x5 + (1 : Int32)))) (xs (zix (x5 + (2 : Int32)))) x3 hx3 r6 hb7) zy_L_store gw411 gw410 (Nat.le_of_ble_eq_true rfl) (Nat.le_of_ble_eq_true rfl) (by omega) (by omega) (zal hW) rfl dL_law_190 (z_at 193 _ [.int r6.1] rfl rfl rfl ?_)
      refine z_pc (pc' := 193) rfl ?_
      exact m_L_law_j193 (S := (zSc S r6.2.1 r6.2.2.1)) (zSc_WF hW) r6.2.2.2 x0 hx0 x1 (zSc_obj hx1) x2 (zSc_obj hx2) x3 (zSc_arr hx3) x4 (zSc_arr hx4) x5 r6.1 L xs hL9 hx9 kn qn k hk 
    refine z_ite _ (fun q16 => ?_) (fun q16 => ?_)
    · refine z_tabIn (off := 200) 244 dL_law_44 (by rw [q16]; decide) (by rw [q16]; decide) (by rw [q16]; decide) rfl ?_
      refine z_aload_n 1 dL_law_244 rfl (z_aload_n 0 dL_law_245 rfl (z_iload 5 dL_law_246 rfl (z_iconst dL_law_248 zi_1 (z_iadd dL_law_249 ?_))))
      refine z_chk (fun c17 => ?_)
      refine z_sldE hL9 hx9 hx0 c17 dL_law_250 (z_aload_n 3 dL_law_251 rfl ?_)
      refine z_bind (fun r18 hb19 => ?_)
      refine z_callSH (kc' := kn) (ks' := qn) (v := some (.int r18.1)) (S1 := (zSc S r18.2.1 r18.2.2.1)) (w1 := r18.2.2.2) (st := []) [.ref x1, .int (xs (zix (x5 + (1 : Int32)))), .ref x3] (m_L_retrieve hW w x1 hx1 (xs (zix (x5 + (1 : Int32)))) x3 hx3 r18 hb19) zy_L_retrieve gw545 gw544 (Nat.le_of_ble_eq_true rfl) (Nat.le_of_ble_eq_true rfl) (by omega) (by omega) (zal hW) rfl dL_law_252 (z_at 255 _ [.int r18.1] rfl rfl rfl ?_)
      refine z_pc (pc' := 255) rfl ?_
      exact m_L_law_j255 (S := (zSc S r18.2.1 r18.2.2.1)) (zSc_WF hW) r18.2.2.2 x0 hx0 x1 (zSc_obj hx1) x2 (zSc_obj hx2) x3 (zSc_arr hx3) x4 (zSc_arr hx4) x5 r18.1 L xs hL9 hx9 kn qn k hk 
    refine z_ite _ (fun q27 => ?_) (fun q27 => ?_)
    · refine z_tabIn (off := 256) 300 dL_law_44 (by rw [q27]; decide) (by rw [q27]; decide) (by rw [q27]; decide) rfl ?_
      refine z_aload_n 1 dL_law_300 rfl (z_aload_n 0 dL_law_301 rfl (z_iload 5 dL_law_302 rfl (z_iconst dL_law_304 zi_1 (z_iadd dL_law_305 ?_))))
      refine z_chk (fun c28 => ?_)
      refine z_sldE hL9 hx9 hx0 c28 dL_law_306 (z_aload_n 0 dL_law_307 rfl (z_iload 5 dL_law_308 rfl (z_iconst dL_law_310 zi_2 (z_iadd dL_law_311 ?_))))
      refine z_chk (fun c29 => ?_)
      refine z_sldE hL9 hx9 hx0 c29 dL_law_312 (z_aload_n 3 dL_law_313 rfl ?_)
      refine z_bind (fun r30 hb31 => ?_)
      refine z_callSH (kc' := kn) (ks' := qn) (v := some (.int r30.1)) (S1 := (zSc S r30.2.1 r30.2.2.1)) (w1 := r30.2.2.2) (st := []) [.ref x1, .int (xs (zix (x5 + (1 : Int32)))), .int (xs (zix (x5 + (2 : Int32)))), .ref x3] (m_L_book hW w x1 hx1 (xs (zix (x5 + (1 : Int32)))) (xs (zix (x5 + (2 : Int32)))) x3 hx3 r30 hb31) zy_L_book gw616 gw615 (Nat.le_of_ble_eq_true rfl) (Nat.le_of_ble_eq_true rfl) (by omega) (by omega) (zal hW) rfl dL_law_314 (z_at 317 _ [.int r30.1] rfl rfl rfl ?_)
      refine z_pc (pc' := 317) rfl ?_
      exact m_L_law_j317 (S := (zSc S r30.2.1 r30.2.2.1)) (zSc_WF hW) r30.2.2.2 x0 hx0 x1 (zSc_obj hx1) x2 (zSc_obj hx2) x3 (zSc_arr hx3) x4 (zSc_arr hx4) x5 r30.1 L xs hL9 hx9 kn qn k hk 
    refine z_ite _ (fun q40 => ?_) (fun q40 => ?_)
    · refine z_tabIn (off := 324) 368 dL_law_44 (by rw [q40]; decide) (by rw [q40]; decide) (by rw [q40]; decide) rfl ?_
      refine z_aload_n 1 dL_law_368 rfl (z_aload_n 0 dL_law_369 rfl (z_iload 5 dL_law_370 rfl (z_iconst dL_law_372 zi_1 (z_iadd dL_law_373 ?_))))
      refine z_chk (fun c41 => ?_)
      refine z_sldE hL9 hx9 hx0 c41 dL_law_374 (z_aload_n 0 dL_law_375 rfl (z_iload 5 dL_law_376 rfl (z_iconst dL_law_378 zi_2 (z_iadd dL_law_379 ?_))))
      refine z_chk (fun c42 => ?_)
      refine z_sldE hL9 hx9 hx0 c42 dL_law_380 (z_aload_n 3 dL_law_381 rfl ?_)
      refine z_bind (fun r43 hb44 => ?_)
      refine z_callSH (kc' := kn) (ks' := qn) (v := some (.int r43.1)) (S1 := (zSc S r43.2.1 r43.2.2.1)) (w1 := r43.2.2.2) (st := []) [.ref x1, .int (xs (zix (x5 + (1 : Int32)))), .int (xs (zix (x5 + (2 : Int32)))), .ref x3] (m_L_car hW w x1 hx1 (xs (zix (x5 + (1 : Int32)))) (xs (zix (x5 + (2 : Int32)))) x3 hx3 r43 hb44) zy_L_car gw632 gw631 (Nat.le_of_ble_eq_true rfl) (Nat.le_of_ble_eq_true rfl) (by omega) (by omega) (zal hW) rfl dL_law_382 (z_at 385 _ [.int r43.1] rfl rfl rfl ?_)
      refine z_pc (pc' := 385) rfl ?_
      exact m_L_law_j385 (S := (zSc S r43.2.1 r43.2.2.1)) (zSc_WF hW) r43.2.2.2 x0 hx0 x1 (zSc_obj hx1) x2 (zSc_obj hx2) x3 (zSc_arr hx3) x4 (zSc_arr hx4) x5 r43.1 L xs hL9 hx9 kn qn k hk 
    refine z_ite _ (fun q53 => ?_) (fun q53 => ?_)
    · refine z_tabIn (off := 392) 436 dL_law_44 (by rw [q53]; decide) (by rw [q53]; decide) (by rw [q53]; decide) rfl ?_
      refine z_aload_n 1 dL_law_436 rfl (z_aload_n 0 dL_law_437 rfl (z_iload 5 dL_law_438 rfl (z_iconst dL_law_440 zi_1 (z_iadd dL_law_441 ?_))))
      refine z_chk (fun c54 => ?_)
      refine z_sldE hL9 hx9 hx0 c54 dL_law_442 (z_aload_n 3 dL_law_443 rfl ?_)
      refine z_bind (fun r55 hb56 => ?_)
      refine z_callSH (kc' := kn) (ks' := qn) (v := some (.int r55.1)) (S1 := (zSc S r55.2.1 r55.2.2.1)) (w1 := r55.2.2.2) (st := []) [.ref x1, .int (xs (zix (x5 + (1 : Int32)))), .ref x3] (m_L_due hW w x1 hx1 (xs (zix (x5 + (1 : Int32)))) x3 hx3 r55 hb56) zy_L_due gw656 gw655 (Nat.le_of_ble_eq_true rfl) (Nat.le_of_ble_eq_true rfl) (by omega) (by omega) (zal hW) rfl dL_law_444 (z_at 447 _ [.int r55.1] rfl rfl rfl ?_)
      refine z_pc (pc' := 447) rfl ?_
      exact m_L_law_j447 (S := (zSc S r55.2.1 r55.2.2.1)) (zSc_WF hW) r55.2.2.2 x0 hx0 x1 (zSc_obj hx1) x2 (zSc_obj hx2) x3 (zSc_arr hx3) x4 (zSc_arr hx4) x5 r55.1 L xs hL9 hx9 kn qn k hk 
    refine z_ite _ (fun q64 => ?_) (fun q64 => ?_)
    · refine z_tabIn (off := 447) 491 dL_law_44 (by rw [q64]; decide) (by rw [q64]; decide) (by rw [q64]; decide) rfl ?_
      refine z_aload_n 1 dL_law_491 rfl (z_aload_n 0 dL_law_492 rfl (z_iload 5 dL_law_493 rfl (z_iconst dL_law_495 zi_1 (z_iadd dL_law_496 ?_))))
      refine z_chk (fun c65 => ?_)
      refine z_sldE hL9 hx9 hx0 c65 dL_law_497 (z_aload_n 0 dL_law_498 rfl (z_iload 5 dL_law_499 rfl (z_iconst dL_law_501 zi_2 (z_iadd dL_law_502 ?_))))
      refine z_chk (fun c66 => ?_)
      refine z_sldE hL9 hx9 hx0 c66 dL_law_503 ?_
      refine z_if_eq 511 dL_law_504 rfl (fun q67 => ?_) (fun q67 => ?_)
      · refine z_iconst dL_law_511 zi_0 ?_
        refine z_pc (pc' := 512) rfl ?_
        exact m_L_law_j512 hW w x0 hx0 x1 hx1 x2 hx2 x3 hx3 x4 hx4 x5 (0 : Int32) ((xs (zix (x5 + (1 : Int32))))) x1 hx1 L xs hL9 hx9 kn qn k hk 
      · refine z_iconst dL_law_507 zi_1 (z_goto 512 dL_law_508 rfl ?_)
        refine z_pc (pc' := 512) rfl ?_
        exact m_L_law_j512 hW w x0 hx0 x1 hx1 x2 hx2 x3 hx3 x4 hx4 x5 (1 : Int32) ((xs (zix (x5 + (1 : Int32))))) x1 hx1 L xs hL9 hx9 kn qn k hk 
    refine z_ite _ (fun q80 => ?_) (fun q80 => ?_)
    · refine z_tabIn (off := 538) 582 dL_law_44 (by rw [q80]; decide) (by rw [q80]; decide) (by rw [q80]; decide) rfl ?_
      refine z_aload_n 1 dL_law_582 rfl (z_aload_n 0 dL_law_583 rfl (z_iload 5 dL_law_584 rfl (z_iconst dL_law_586 zi_1 (z_iadd dL_law_587 ?_))))
      refine z_chk (fun c81 => ?_)
      refine z_sldE hL9 hx9 hx0 c81 dL_law_588 (z_aload_n 0 dL_law_589 rfl (z_iload 5 dL_law_590 rfl (z_iconst dL_law_592 zi_2 (z_iadd dL_law_593 ?_))))
      refine z_chk (fun c82 => ?_)
      refine z_sldE hL9 hx9 hx0 c82 dL_law_594 (z_aload_n 3 dL_law_595 rfl ?_)
      refine z_bind (fun r83 hb84 => ?_)
      refine z_callSH (kc' := kn) (ks' := qn) (v := some (.int r83.1)) (S1 := (zSc S r83.2.1 r83.2.2.1)) (w1 := r83.2.2.2) (st := []) [.ref x1, .int (xs (zix (x5 + (1 : Int32)))), .int (xs (zix (x5 + (2 : Int32)))), .ref x3] (m_L_bay hW w x1 hx1 (xs (zix (x5 + (1 : Int32)))) (xs (zix (x5 + (2 : Int32)))) x3 hx3 r83 hb84) zy_L_bay gw686 gw685 (Nat.le_of_ble_eq_true rfl) (Nat.le_of_ble_eq_true rfl) (by omega) (by omega) (zal hW) rfl dL_law_596 (z_at 599 _ [.int r83.1] rfl rfl rfl ?_)
      refine z_pc (pc' := 599) rfl ?_
      exact m_L_law_j599 (S := (zSc S r83.2.1 r83.2.2.1)) (zSc_WF hW) r83.2.2.2 x0 hx0 x1 (zSc_obj hx1) x2 (zSc_obj hx2) x3 (zSc_arr hx3) x4 (zSc_arr hx4) x5 r83.1 L xs hL9 hx9 kn qn k hk 
    refine z_ite _ (fun q93 => ?_) (fun q93 => ?_)
    · refine z_tabIn (off := 606) 650 dL_law_44 (by rw [q93]; decide) (by rw [q93]; decide) (by rw [q93]; decide) rfl ?_
      refine z_aload_n 1 dL_law_650 rfl (z_aload_n 0 dL_law_651 rfl (z_iload 5 dL_law_652 rfl (z_iconst dL_law_654 zi_1 (z_iadd dL_law_655 ?_))))
      refine z_chk (fun c94 => ?_)
      refine z_sldE hL9 hx9 hx0 c94 dL_law_656 (z_aload_n 0 dL_law_657 rfl (z_iload 5 dL_law_658 rfl (z_iconst dL_law_660 zi_2 (z_iadd dL_law_661 ?_))))
      refine z_chk (fun c95 => ?_)
      refine z_sldE hL9 hx9 hx0 c95 dL_law_662 (z_aload_n 3 dL_law_663 rfl ?_)
      refine z_bind (fun r96 hb97 => ?_)
      refine z_callSH (kc' := kn) (ks' := qn) (v := some (.int r96.1)) (S1 := (zSc S r96.2.1 r96.2.2.1)) (w1 := r96.2.2.2) (st := []) [.ref x1, .int (xs (zix (x5 + (1 : Int32)))), .int (xs (zix (x5 + (2 : Int32)))), .ref x3] (m_L_choice hW w x1 hx1 (xs (zix (x5 + (1 : Int32)))) (xs (zix (x5 + (2 : Int32)))) x3 hx3 r96 hb97) zy_L_choice gw707 gw706 (Nat.le_of_ble_eq_true rfl) (Nat.le_of_ble_eq_true rfl) (by omega) (by omega) (zal hW) rfl dL_law_664 (z_at 667 _ [.int r96.1] rfl rfl rfl ?_)
      refine z_pc (pc' := 667) rfl ?_
      exact m_L_law_j667 (S := (zSc S r96.2.1 r96.2.2.1)) (zSc_WF hW) r96.2.2.2 x0 hx0 x1 (zSc_obj hx1) x2 (zSc_obj hx2) x3 (zSc_arr hx3) x4 (zSc_arr hx4) x5 r96.1 L xs hL9 hx9 kn qn k hk 
    refine z_ite _ (fun q106 => ?_) (fun q106 => ?_)
    · refine z_tabIn (off := 674) 718 dL_law_44 (by rw [q106]; decide) (by rw [q106]; decide) (by rw [q106]; decide) rfl ?_
      refine z_aload_n 1 dL_law_718 rfl (z_aload_n 0 dL_law_719 rfl (z_iload 5 dL_law_720 rfl (z_iconst dL_law_722 zi_1 (z_iadd dL_law_723 ?_))))
      refine z_chk (fun c107 => ?_)
      refine z_sldE hL9 hx9 hx0 c107 dL_law_724 (z_aload_n 3 dL_law_725 rfl ?_)
      refine z_bind (fun r108 hb109 => ?_)
      refine z_callSH (kc' := kn) (ks' := qn) (v := some (.int r108.1)) (S1 := (zSc S r108.2.1 r108.2.2.1)) (w1 := r108.2.2.2) (st := []) [.ref x1, .int (xs (zix (x5 + (1 : Int32)))), .ref x3] (m_L_refuge hW w x1 hx1 (xs (zix (x5 + (1 : Int32)))) x3 hx3 r108 hb109) zy_L_refuge gw731 gw730 (Nat.le_of_ble_eq_true rfl) (Nat.le_of_ble_eq_true rfl) (by omega) (by omega) (zal hW) rfl dL_law_726 (z_at 729 _ [.int r108.1] rfl rfl rfl ?_)
      refine z_pc (pc' := 729) rfl ?_
      exact m_L_law_j729 (S := (zSc S r108.2.1 r108.2.2.1)) (zSc_WF hW) r108.2.2.2 x0 hx0 x1 (zSc_obj hx1) x2 (zSc_obj hx2) x3 (zSc_arr hx3) x4 (zSc_arr hx4) x5 r108.1 L xs hL9 hx9 kn qn k hk 
    refine z_ite _ (fun q117 => ?_) (fun q117 => ?_)
    · refine z_tabIn (off := 730) 774 dL_law_44 (by rw [q117]; decide) (by rw [q117]; decide) (by rw [q117]; decide) rfl ?_
      refine z_aload_n 1 dL_law_774 rfl (z_aload_n 0 dL_law_775 rfl (z_iload 5 dL_law_776 rfl (z_iconst dL_law_778 zi_1 (z_iadd dL_law_779 ?_))))
      refine z_chk (fun c118 => ?_)
      refine z_sldE hL9 hx9 hx0 c118 dL_law_780 (z_aload_n 3 dL_law_781 rfl ?_)
      refine z_bind (fun r119 hb120 => ?_)
      refine z_callSH (kc' := kn) (ks' := qn) (v := some (.int r119.1)) (S1 := (zSc S r119.2.1 r119.2.2.1)) (w1 := r119.2.2.2) (st := []) [.ref x1, .int (xs (zix (x5 + (1 : Int32)))), .ref x3] (m_L_bays hW w x1 hx1 (xs (zix (x5 + (1 : Int32)))) x3 hx3 r119 hb120) zy_L_bays gw739 gw738 (Nat.le_of_ble_eq_true rfl) (Nat.le_of_ble_eq_true rfl) (by omega) (by omega) (zal hW) rfl dL_law_782 (z_at 785 _ [.int r119.1] rfl rfl rfl ?_)
      refine z_pc (pc' := 785) rfl ?_
      exact m_L_law_j785 (S := (zSc S r119.2.1 r119.2.2.1)) (zSc_WF hW) r119.2.2.2 x0 hx0 x1 (zSc_obj hx1) x2 (zSc_obj hx2) x3 (zSc_arr hx3) x4 (zSc_arr hx4) x5 r119.1 L xs hL9 hx9 kn qn k hk 
    refine z_ite _ (fun q128 => ?_) (fun q128 => ?_)
    · refine z_tabIn (off := 786) 830 dL_law_44 (by rw [q128]; decide) (by rw [q128]; decide) (by rw [q128]; decide) rfl ?_
      refine z_aload_n 1 dL_law_830 rfl (z_aload_n 0 dL_law_831 rfl (z_iload 5 dL_law_832 rfl (z_iconst dL_law_834 zi_1 (z_iadd dL_law_835 ?_))))
      refine z_chk (fun c129 => ?_)
      refine z_sldE hL9 hx9 hx0 c129 dL_law_836 (z_i2l (v := ((xs (zix (x5 + (1 : Int32))))).toInt64) dL_law_837 rfl (z_bipush dL_law_838 zb_32 (z_lshl (v := (zlshl (((xs (zix (x5 + (1 : Int32))))).toInt64) (32 : Int32))) dL_law_840 rfl (z_aload_n 0 dL_law_841 rfl (z_iload 5 dL_law_842 rfl ?_)))))
      refine z_iconst dL_law_844 zi_2 (z_iadd dL_law_845 ?_)
      refine z_chk (fun c130 => ?_)
      refine z_sldE hL9 hx9 hx0 c130 dL_law_846 (z_i2l (v := ((xs (zix (x5 + (2 : Int32))))).toInt64) dL_law_847 rfl (z_ldc2 dL_law_848 gw1510 (z_land dL_law_851 (z_lor dL_law_852 (z_aload_n 3 dL_law_853 rfl ?_)))))
      refine z_bind (fun r131 hb132 => ?_)
      refine z_callSH (kc' := kn) (ks' := qn) (v := some (.int r131.1)) (S1 := (zSc S r131.2.1 r131.2.2.1)) (w1 := r131.2.2.2) (st := []) [.ref x1, .long ((zlshl (((xs (zix (x5 + (1 : Int32))))).toInt64) (32 : Int32)) ||| (((xs (zix (x5 + (2 : Int32))))).toInt64 &&& (4294967295 : Int64))), .ref x3] (m_L_bestMoves hW w x1 hx1 ((zlshl (((xs (zix (x5 + (1 : Int32))))).toInt64) (32 : Int32)) ||| (((xs (zix (x5 + (2 : Int32))))).toInt64 &&& (4294967295 : Int64))) x3 hx3 r131 hb132) zy_L_bestMoves gw758 gw757 (Nat.le_of_ble_eq_true rfl) (Nat.le_of_ble_eq_true rfl) (by omega) (by omega) (zal hW) rfl dL_law_854 (z_at 857 _ [.int r131.1] rfl rfl rfl ?_)
      refine z_pc (pc' := 857) rfl ?_
      exact m_L_law_j857 (S := (zSc S r131.2.1 r131.2.2.1)) (zSc_WF hW) r131.2.2.2 x0 hx0 x1 (zSc_obj hx1) x2 (zSc_obj hx2) x3 (zSc_arr hx3) x4 (zSc_arr hx4) x5 r131.1 L xs hL9 hx9 kn qn k hk 
    refine z_ite _ (fun q141 => ?_) (fun q141 => ?_)
    · refine z_tabIn (off := 874) 918 dL_law_44 (by rw [q141]; decide) (by rw [q141]; decide) (by rw [q141]; decide) rfl ?_
      refine z_aload_n 1 dL_law_918 rfl (z_aload_n 0 dL_law_919 rfl (z_iload 5 dL_law_920 rfl (z_iconst dL_law_922 zi_1 (z_iadd dL_law_923 ?_))))
      refine z_chk (fun c142 => ?_)
      refine z_sldE hL9 hx9 hx0 c142 dL_law_924 (z_i2l (v := ((xs (zix (x5 + (1 : Int32))))).toInt64) dL_law_925 rfl (z_bipush dL_law_926 zb_32 (z_lshl (v := (zlshl (((xs (zix (x5 + (1 : Int32))))).toInt64) (32 : Int32))) dL_law_928 rfl (z_aload_n 0 dL_law_929 rfl (z_iload 5 dL_law_930 rfl ?_)))))
      refine z_iconst dL_law_932 zi_2 (z_iadd dL_law_933 ?_)
      refine z_chk (fun c143 => ?_)
      refine z_sldE hL9 hx9 hx0 c143 dL_law_934 (z_i2l (v := ((xs (zix (x5 + (2 : Int32))))).toInt64) dL_law_935 rfl (z_ldc2 dL_law_936 gw1510 (z_land dL_law_939 (z_lor dL_law_940 (z_aload_n 3 dL_law_941 rfl ?_)))))
      refine z_bind (fun r144 hb145 => ?_)
      refine z_callSH (kc' := kn) (ks' := qn) (v := some (.int r144.1)) (S1 := (zSc S r144.2.1 r144.2.2.1)) (w1 := r144.2.2.2) (st := []) [.ref x1, .long ((zlshl (((xs (zix (x5 + (1 : Int32))))).toInt64) (32 : Int32)) ||| (((xs (zix (x5 + (2 : Int32))))).toInt64 &&& (4294967295 : Int64))), .ref x3] (m_L_bestEnd hW w x1 hx1 ((zlshl (((xs (zix (x5 + (1 : Int32))))).toInt64) (32 : Int32)) ||| (((xs (zix (x5 + (2 : Int32))))).toInt64 &&& (4294967295 : Int64))) x3 hx3 r144 hb145) zy_L_bestEnd gw827 gw826 (Nat.le_of_ble_eq_true rfl) (Nat.le_of_ble_eq_true rfl) (by omega) (by omega) (zal hW) rfl dL_law_942 (z_at 945 _ [.int r144.1] rfl rfl rfl ?_)
      refine z_pc (pc' := 945) rfl ?_
      exact m_L_law_j945 (S := (zSc S r144.2.1 r144.2.2.1)) (zSc_WF hW) r144.2.2.2 x0 hx0 x1 (zSc_obj hx1) x2 (zSc_obj hx2) x3 (zSc_arr hx3) x4 (zSc_arr hx4) x5 r144.1 L xs hL9 hx9 kn qn k hk 
    refine z_ite _ (fun q154 => ?_) (fun q154 => ?_)
    · refine z_tabIn (off := 962) 1006 dL_law_44 (by rw [q154]; decide) (by rw [q154]; decide) (by rw [q154]; decide) rfl ?_
      refine z_aload_n 1 dL_law_1006 rfl (z_aload_n 0 dL_law_1007 rfl (z_iload 5 dL_law_1008 rfl (z_iconst dL_law_1010 zi_1 (z_iadd dL_law_1011 ?_))))
      refine z_chk (fun c155 => ?_)
      refine z_sldE hL9 hx9 hx0 c155 dL_law_1012 (z_i2l (v := ((xs (zix (x5 + (1 : Int32))))).toInt64) dL_law_1013 rfl (z_bipush dL_law_1014 zb_32 (z_lshl (v := (zlshl (((xs (zix (x5 + (1 : Int32))))).toInt64) (32 : Int32))) dL_law_1016 rfl (z_aload_n 0 dL_law_1017 rfl (z_iload 5 dL_law_1018 rfl ?_)))))
      refine z_iconst dL_law_1020 zi_2 (z_iadd dL_law_1021 ?_)
      refine z_chk (fun c156 => ?_)
      refine z_sldE hL9 hx9 hx0 c156 dL_law_1022 (z_i2l (v := ((xs (zix (x5 + (2 : Int32))))).toInt64) dL_law_1023 rfl (z_ldc2 dL_law_1024 gw1510 (z_land dL_law_1027 (z_lor dL_law_1028 (z_aload_n 0 dL_law_1029 rfl ?_)))))
      refine z_iload 5 dL_law_1030 rfl (z_iconst dL_law_1032 zi_3 (z_iadd dL_law_1033 ?_))
      refine z_chk (fun c157 => ?_)
      refine z_sldE hL9 hx9 hx0 c157 dL_law_1034 (z_aload_n 3 dL_law_1035 rfl ?_)
      refine z_bind (fun r158 hb159 => ?_)
      refine z_callSH (kc' := kn) (ks' := qn) (v := some (.int r158.1)) (S1 := (zSc S r158.2.1 r158.2.2.1)) (w1 := r158.2.2.2) (st := []) [.ref x1, .long ((zlshl (((xs (zix (x5 + (1 : Int32))))).toInt64) (32 : Int32)) ||| (((xs (zix (x5 + (2 : Int32))))).toInt64 &&& (4294967295 : Int64))), .int (xs (zix (x5 + (3 : Int32)))), .ref x3] (m_L_bestCar hW w x1 hx1 ((zlshl (((xs (zix (x5 + (1 : Int32))))).toInt64) (32 : Int32)) ||| (((xs (zix (x5 + (2 : Int32))))).toInt64 &&& (4294967295 : Int64))) (xs (zix (x5 + (3 : Int32)))) x3 hx3 r158 hb159) zy_L_bestCar gw838 gw837 (Nat.le_of_ble_eq_true rfl) (Nat.le_of_ble_eq_true rfl) (by omega) (by omega) (zal hW) rfl dL_law_1036 (z_at 1039 _ [.int r158.1] rfl rfl rfl ?_)
      refine z_pc (pc' := 1039) rfl ?_
      exact m_L_law_j1039 (S := (zSc S r158.2.1 r158.2.2.1)) (zSc_WF hW) r158.2.2.2 x0 hx0 x1 (zSc_obj hx1) x2 (zSc_obj hx2) x3 (zSc_arr hx3) x4 (zSc_arr hx4) x5 r158.1 L xs hL9 hx9 kn qn k hk 
    refine z_ite _ (fun q169 => ?_) (fun q169 => ?_)
    · refine z_tabIn (off := 1062) 1106 dL_law_44 (by rw [q169]; decide) (by rw [q169]; decide) (by rw [q169]; decide) rfl ?_
      refine z_aload_n 1 dL_law_1106 rfl (z_aload_n 0 dL_law_1107 rfl (z_iload 5 dL_law_1108 rfl (z_iconst dL_law_1110 zi_1 (z_iadd dL_law_1111 ?_))))
      refine z_chk (fun c170 => ?_)
      refine z_sldE hL9 hx9 hx0 c170 dL_law_1112 (z_i2l (v := ((xs (zix (x5 + (1 : Int32))))).toInt64) dL_law_1113 rfl (z_bipush dL_law_1114 zb_32 (z_lshl (v := (zlshl (((xs (zix (x5 + (1 : Int32))))).toInt64) (32 : Int32))) dL_law_1116 rfl (z_aload_n 0 dL_law_1117 rfl (z_iload 5 dL_law_1118 rfl ?_)))))
      refine z_iconst dL_law_1120 zi_2 (z_iadd dL_law_1121 ?_)
      refine z_chk (fun c171 => ?_)
      refine z_sldE hL9 hx9 hx0 c171 dL_law_1122 (z_i2l (v := ((xs (zix (x5 + (2 : Int32))))).toInt64) dL_law_1123 rfl (z_ldc2 dL_law_1124 gw1510 (z_land dL_law_1127 (z_lor dL_law_1128 (z_aload_n 3 dL_law_1129 rfl ?_)))))
      refine z_bind (fun r172 hb173 => ?_)
      refine z_callSH (kc' := kn) (ks' := qn) (v := some (.int r172.1)) (S1 := (zSc S r172.2.1 r172.2.2.1)) (w1 := r172.2.2.2) (st := []) [.ref x1, .long ((zlshl (((xs (zix (x5 + (1 : Int32))))).toInt64) (32 : Int32)) ||| (((xs (zix (x5 + (2 : Int32))))).toInt64 &&& (4294967295 : Int64))), .ref x3] (m_L_plainMoves hW w x1 hx1 ((zlshl (((xs (zix (x5 + (1 : Int32))))).toInt64) (32 : Int32)) ||| (((xs (zix (x5 + (2 : Int32))))).toInt64 &&& (4294967295 : Int64))) x3 hx3 r172 hb173) zy_L_plainMoves gw850 gw849 (Nat.le_of_ble_eq_true rfl) (Nat.le_of_ble_eq_true rfl) (by omega) (by omega) (zal hW) rfl dL_law_1130 (z_at 1133 _ [.int r172.1] rfl rfl rfl ?_)
      refine z_pc (pc' := 1133) rfl ?_
      exact m_L_law_j1133 (S := (zSc S r172.2.1 r172.2.2.1)) (zSc_WF hW) r172.2.2.2 x0 hx0 x1 (zSc_obj hx1) x2 (zSc_obj hx2) x3 (zSc_arr hx3) x4 (zSc_arr hx4) x5 r172.1 L xs hL9 hx9 kn qn k hk 
    refine z_ite _ (fun q182 => ?_) (fun q182 => ?_)
    · refine z_tabIn (off := 1150) 1194 dL_law_44 (by rw [q182]; decide) (by rw [q182]; decide) (by rw [q182]; decide) rfl ?_
      refine z_aload_n 1 dL_law_1194 rfl (z_aload_n 0 dL_law_1195 rfl (z_iload 5 dL_law_1196 rfl (z_iconst dL_law_1198 zi_1 (z_iadd dL_law_1199 ?_))))
      refine z_chk (fun c183 => ?_)
      refine z_sldE hL9 hx9 hx0 c183 dL_law_1200 (z_i2l (v := ((xs (zix (x5 + (1 : Int32))))).toInt64) dL_law_1201 rfl (z_bipush dL_law_1202 zb_32 (z_lshl (v := (zlshl (((xs (zix (x5 + (1 : Int32))))).toInt64) (32 : Int32))) dL_law_1204 rfl (z_aload_n 0 dL_law_1205 rfl (z_iload 5 dL_law_1206 rfl ?_)))))
      refine z_iconst dL_law_1208 zi_2 (z_iadd dL_law_1209 ?_)
      refine z_chk (fun c184 => ?_)
      refine z_sldE hL9 hx9 hx0 c184 dL_law_1210 (z_i2l (v := ((xs (zix (x5 + (2 : Int32))))).toInt64) dL_law_1211 rfl (z_ldc2 dL_law_1212 gw1510 (z_land dL_law_1215 (z_lor dL_law_1216 (z_aload_n 3 dL_law_1217 rfl ?_)))))
      refine z_bind (fun r185 hb186 => ?_)
      refine z_callSH (kc' := kn) (ks' := qn) (v := some (.int r185.1)) (S1 := (zSc S r185.2.1 r185.2.2.1)) (w1 := r185.2.2.2) (st := []) [.ref x1, .long ((zlshl (((xs (zix (x5 + (1 : Int32))))).toInt64) (32 : Int32)) ||| (((xs (zix (x5 + (2 : Int32))))).toInt64 &&& (4294967295 : Int64))), .ref x3] (m_L_retrieveAll hW w x1 hx1 ((zlshl (((xs (zix (x5 + (1 : Int32))))).toInt64) (32 : Int32)) ||| (((xs (zix (x5 + (2 : Int32))))).toInt64 &&& (4294967295 : Int64))) x3 hx3 r185 hb186) zy_L_retrieveAll gw862 gw861 (Nat.le_of_ble_eq_true rfl) (Nat.le_of_ble_eq_true rfl) (by omega) (by omega) (zal hW) rfl dL_law_1218 (z_at 1221 _ [.int r185.1] rfl rfl rfl ?_)
      refine z_pc (pc' := 1221) rfl ?_
      exact m_L_law_j1221 (S := (zSc S r185.2.1 r185.2.2.1)) (zSc_WF hW) r185.2.2.2 x0 hx0 x1 (zSc_obj hx1) x2 (zSc_obj hx2) x3 (zSc_arr hx3) x4 (zSc_arr hx4) x5 r185.1 L xs hL9 hx9 kn qn k hk 
    refine z_ite _ (fun q195 => ?_) (fun q195 => ?_)
    · refine z_tabIn (off := 1238) 1282 dL_law_44 (by rw [q195]; decide) (by rw [q195]; decide) (by rw [q195]; decide) rfl ?_
      refine z_aload_n 1 dL_law_1282 rfl ?_
      refine z_bind (fun r196 hb197 => ?_)
      refine z_callV (kc' := (kn + 2)) (ks' := (qn + 12)) (v := (some (.int r196.1))) (S1 := S) (w1 := r196.2) (st := []) [] (m_X7_tidy hW w x1 hx1 r196 hb197) zc7 hx1 zy_X7_tidy gw242 gw243 gw241 (Nat.le_of_ble_eq_true rfl) (Nat.le_of_ble_eq_true rfl) (Nat.le_of_eq (Nat.zero_add _)) (Nat.le_of_eq (Nat.zero_add _)) (zal hW) rfl dL_law_1283 (z_at 1286 _ [.int r196.1] rfl rfl rfl ?_)
      refine z_aload_n 2 dL_law_1286 rfl ?_
      refine z_bind (fun r198 hb199 => ?_)
      refine z_callV (kc' := (kn + 2)) (ks' := (qn + 12)) (v := (some (.int r198.1))) (S1 := S) (w1 := r198.2) (st := [.int r196.1]) [] (m_X8_tidy hW r196.2 x2 hx2 r198 hb199) zc8 hx2 zy_X8_tidy gw1419 gw1420 gw1418 (Nat.le_of_ble_eq_true rfl) (Nat.le_of_ble_eq_true rfl) (Nat.le_of_eq (Nat.zero_add _)) (Nat.le_of_eq (Nat.zero_add _)) (zal hW) rfl dL_law_1287 (z_at 1290 _ [.int r198.1, .int r196.1] rfl rfl rfl ?_)
      refine z_icmp_eq 1970 dL_law_1290 rfl (fun q200 => ?_) (fun q200 => ?_)
      · refine z_iinc (v := (x5 + (4 : Int32))) (lv' := [(5, .int (x5 + (4 : Int32))), (0, .ref x0), (1, .ref x1), (2, .ref x2), (3, .ref x3), (4, .ref x4)]) 5 dL_law_1970 rfl (zi_inc _ zi_4) (Nat.le_of_ble_eq_true rfl) rfl (z_goto 28 dL_law_1973 rfl ?_)
        refine z_sub (lv' := [(0, .ref x0), (1, .ref x1), (2, .ref x2), (3, .ref x3), (4, .ref x4), (5, .int (x5 + (4 : Int32)))]) [1, 2, 3, 4, 5, 0] rfl ?_
        refine z_bud (kc' := kn) (ks' := qn) (by omega) (by omega) ?_
        refine z_pc (pc' := 28) rfl ?_
        exact hk ((x5 + (4 : Int32)), S.cl, S.cd, r198.2)
      · refine z_iconst dL_law_1293 zi_0 ?_
        exact z_zret zemS rfl rfl dL_law_1294
    refine z_ite _ (fun q201 => ?_) (fun q201 => ?_)
    · refine z_tabIn (off := 1251) 1295 dL_law_44 (by rw [q201]; decide) (by rw [q201]; decide) (by rw [q201]; decide) rfl ?_
      refine z_aload_n 1 dL_law_1295 rfl (z_aload_n 0 dL_law_1296 rfl (z_iload 5 dL_law_1297 rfl (z_iconst dL_law_1299 zi_1 (z_iadd dL_law_1300 ?_))))
      refine z_chk (fun c202 => ?_)
      refine z_sldE hL9 hx9 hx0 c202 dL_law_1301 (z_aload_n 3 dL_law_1302 rfl ?_)
      refine z_bind (fun r203 hb204 => ?_)
      refine z_callSH (kc' := kn) (ks' := qn) (v := some (.int r203.1)) (S1 := (zSc S r203.2.1 r203.2.2.1)) (w1 := r203.2.2.2) (st := []) [.ref x1, .int (xs (zix (x5 + (1 : Int32)))), .ref x3] (m_L_pass hW w x1 hx1 (xs (zix (x5 + (1 : Int32)))) x3 hx3 r203 hb204) zy_L_pass gw869 gw868 (Nat.le_of_ble_eq_true rfl) (Nat.le_of_ble_eq_true rfl) (by omega) (by omega) (zal hW) rfl dL_law_1303 (z_at 1306 _ [.int r203.1] rfl rfl rfl ?_)
      refine z_pc (pc' := 1306) rfl ?_
      exact m_L_law_j1306 (S := (zSc S r203.2.1 r203.2.2.1)) (zSc_WF hW) r203.2.2.2 x0 hx0 x1 (zSc_obj hx1) x2 (zSc_obj hx2) x3 (zSc_arr hx3) x4 (zSc_arr hx4) x5 r203.1 L xs hL9 hx9 kn qn k hk 
    refine z_ite _ (fun q212 => ?_) (fun q212 => ?_)
    · refine z_tabIn (off := 1307) 1351 dL_law_44 (by rw [q212]; decide) (by rw [q212]; decide) (by rw [q212]; decide) rfl ?_
      refine z_aload_n 1 dL_law_1351 rfl (z_aload_n 0 dL_law_1352 rfl (z_iload 5 dL_law_1353 rfl (z_iconst dL_law_1355 zi_1 (z_iadd dL_law_1356 ?_))))
      refine z_chk (fun c213 => ?_)
      refine z_sldE hL9 hx9 hx0 c213 dL_law_1357 (z_aload_n 0 dL_law_1358 rfl (z_iload 5 dL_law_1359 rfl (z_iconst dL_law_1361 zi_2 (z_iadd dL_law_1362 ?_))))
      refine z_chk (fun c214 => ?_)
      refine z_sldE hL9 hx9 hx0 c214 dL_law_1363 (z_aload_n 3 dL_law_1364 rfl ?_)
      refine z_bind (fun r215 hb216 => ?_)
      refine z_callSH (kc' := kn) (ks' := qn) (v := some (.int r215.1)) (S1 := (zSc S r215.2.1 r215.2.2.1)) (w1 := r215.2.2.2) (st := []) [.ref x1, .int (xs (zix (x5 + (1 : Int32)))), .int (xs (zix (x5 + (2 : Int32)))), .ref x3] (m_L_machine hW w x1 hx1 (xs (zix (x5 + (1 : Int32)))) (xs (zix (x5 + (2 : Int32)))) x3 hx3 r215 hb216) zy_L_machine gw889 gw888 (Nat.le_of_ble_eq_true rfl) (Nat.le_of_ble_eq_true rfl) (by omega) (by omega) (zal hW) rfl dL_law_1365 (z_at 1368 _ [.int r215.1] rfl rfl rfl ?_)
      refine z_pc (pc' := 1368) rfl ?_
      exact m_L_law_j1368 (S := (zSc S r215.2.1 r215.2.2.1)) (zSc_WF hW) r215.2.2.2 x0 hx0 x1 (zSc_obj hx1) x2 (zSc_obj hx2) x3 (zSc_arr hx3) x4 (zSc_arr hx4) x5 r215.1 L xs hL9 hx9 kn qn k hk 
    refine z_ite _ (fun q225 => ?_) (fun q225 => ?_)
    · refine z_tabIn (off := 1375) 1419 dL_law_44 (by rw [q225]; decide) (by rw [q225]; decide) (by rw [q225]; decide) rfl ?_
      refine z_aload_n 1 dL_law_1419 rfl ?_
      refine z_callV (kc' := (kn + 2)) (ks' := (qn + 12)) (v := (some (.int (f_X7_jobs S w x1)))) (S1 := S) (w1 := w) (st := []) [] (m_X7_jobs hW w x1 hx1) zc7 hx1 zy_X7_jobs gw389 gw390 gw388 (Nat.le_of_ble_eq_true rfl) (Nat.le_of_ble_eq_true rfl) (Nat.le_of_eq (Nat.zero_add _)) (Nat.le_of_eq (Nat.zero_add _)) (zal hW) rfl dL_law_1420 (z_at 1423 _ [.int (f_X7_jobs S w x1)] rfl rfl rfl ?_)
      refine z_aload_n 2 dL_law_1423 rfl ?_
      refine z_bind (fun v226 hb227 => ?_)
      refine z_callV (kc' := (kn + 2)) (ks' := (qn + 12)) (v := (some (.int v226))) (S1 := S) (w1 := w) (st := [.int (f_X7_jobs S w x1)]) [] (m_X8_jobs hW w x2 hx2 v226 hb227) zc8 hx2 zy_X8_jobs gw1443 gw1444 gw1442 (Nat.le_of_ble_eq_true rfl) (Nat.le_of_ble_eq_true rfl) (Nat.le_of_eq (Nat.zero_add _)) (Nat.le_of_eq (Nat.zero_add _)) (zal hW) rfl dL_law_1424 (z_at 1427 _ [.int v226, .int (f_X7_jobs S w x1)] rfl rfl rfl ?_)
      refine z_icmp_eq 1970 dL_law_1427 rfl (fun q228 => ?_) (fun q228 => ?_)
      · refine z_iinc (v := (x5 + (4 : Int32))) (lv' := [(5, .int (x5 + (4 : Int32))), (0, .ref x0), (1, .ref x1), (2, .ref x2), (3, .ref x3), (4, .ref x4)]) 5 dL_law_1970 rfl (zi_inc _ zi_4) (Nat.le_of_ble_eq_true rfl) rfl (z_goto 28 dL_law_1973 rfl ?_)
        refine z_sub (lv' := [(0, .ref x0), (1, .ref x1), (2, .ref x2), (3, .ref x3), (4, .ref x4), (5, .int (x5 + (4 : Int32)))]) [1, 2, 3, 4, 5, 0] rfl ?_
        refine z_bud (kc' := kn) (ks' := qn) (by omega) (by omega) ?_
        refine z_pc (pc' := 28) rfl ?_
        exact hk ((x5 + (4 : Int32)), S.cl, S.cd, w)
      · refine z_iconst dL_law_1430 zi_0 ?_
        exact z_zret zemS rfl rfl dL_law_1431
    refine z_ite _ (fun q229 => ?_) (fun q229 => ?_)
    · refine z_tabIn (off := 1388) 1432 dL_law_44 (by rw [q229]; decide) (by rw [q229]; decide) (by rw [q229]; decide) rfl ?_
      refine z_aload_n 1 dL_law_1432 rfl (z_aload_n 0 dL_law_1433 rfl (z_iload 5 dL_law_1434 rfl (z_iconst dL_law_1436 zi_1 (z_iadd dL_law_1437 ?_))))
      refine z_chk (fun c230 => ?_)
      refine z_sldE hL9 hx9 hx0 c230 dL_law_1438 (z_aload_n 0 dL_law_1439 rfl (z_iload 5 dL_law_1440 rfl (z_iconst dL_law_1442 zi_2 (z_iadd dL_law_1443 ?_))))
      refine z_chk (fun c231 => ?_)
      refine z_sldE hL9 hx9 hx0 c231 dL_law_1444 (z_aload_n 3 dL_law_1445 rfl ?_)
      refine z_bind (fun r232 hb233 => ?_)
      refine z_callSH (kc' := kn) (ks' := qn) (v := some (.int r232.1)) (S1 := (zSc S r232.2.1 r232.2.2.1)) (w1 := r232.2.2.2) (st := []) [.ref x1, .int (xs (zix (x5 + (1 : Int32)))), .int (xs (zix (x5 + (2 : Int32)))), .ref x3] (m_L_job hW w x1 hx1 (xs (zix (x5 + (1 : Int32)))) (xs (zix (x5 + (2 : Int32)))) x3 hx3 r232 hb233) zy_L_job gw918 gw917 (Nat.le_of_ble_eq_true rfl) (Nat.le_of_ble_eq_true rfl) (by omega) (by omega) (zal hW) rfl dL_law_1446 (z_at 1449 _ [.int r232.1] rfl rfl rfl ?_)
      refine z_pc (pc' := 1449) rfl ?_
      exact m_L_law_j1449 (S := (zSc S r232.2.1 r232.2.2.1)) (zSc_WF hW) r232.2.2.2 x0 hx0 x1 (zSc_obj hx1) x2 (zSc_obj hx2) x3 (zSc_arr hx3) x4 (zSc_arr hx4) x5 r232.1 L xs hL9 hx9 kn qn k hk 
    refine z_ite _ (fun q242 => ?_) (fun q242 => ?_)
    · refine z_tabIn (off := 1456) 1500 dL_law_44 (by rw [q242]; decide) (by rw [q242]; decide) (by rw [q242]; decide) rfl ?_
      refine z_aload_n 1 dL_law_1500 rfl (z_aload_n 0 dL_law_1501 rfl (z_iload 5 dL_law_1502 rfl (z_iconst dL_law_1504 zi_1 (z_iadd dL_law_1505 ?_))))
      refine z_chk (fun c243 => ?_)
      refine z_sldE hL9 hx9 hx0 c243 dL_law_1506 (z_aload_n 3 dL_law_1507 rfl ?_)
      refine z_bind (fun r244 hb245 => ?_)
      refine z_callSH (kc' := kn) (ks' := qn) (v := some (.int r244.1)) (S1 := (zSc S r244.2.1 r244.2.2.1)) (w1 := r244.2.2.2) (st := []) [.ref x1, .int (xs (zix (x5 + (1 : Int32)))), .ref x3] (m_L_account hW w x1 hx1 (xs (zix (x5 + (1 : Int32)))) x3 hx3 r244 hb245) zy_L_account gw928 gw927 (Nat.le_of_ble_eq_true rfl) (Nat.le_of_ble_eq_true rfl) (by omega) (by omega) (zal hW) rfl dL_law_1508 (z_at 1511 _ [.int r244.1] rfl rfl rfl ?_)
      refine z_pc (pc' := 1511) rfl ?_
      exact m_L_law_j1511 (S := (zSc S r244.2.1 r244.2.2.1)) (zSc_WF hW) r244.2.2.2 x0 hx0 x1 (zSc_obj hx1) x2 (zSc_obj hx2) x3 (zSc_arr hx3) x4 (zSc_arr hx4) x5 r244.1 L xs hL9 hx9 kn qn k hk 
    refine z_ite _ (fun q253 => ?_) (fun q253 => ?_)
    · refine z_tabIn (off := 1512) 1556 dL_law_44 (by rw [q253]; decide) (by rw [q253]; decide) (by rw [q253]; decide) rfl ?_
      refine z_aload_n 1 dL_law_1556 rfl (z_aload_n 0 dL_law_1557 rfl (z_iload 5 dL_law_1558 rfl (z_iconst dL_law_1560 zi_1 (z_iadd dL_law_1561 ?_))))
      refine z_chk (fun c254 => ?_)
      refine z_sldE hL9 hx9 hx0 c254 dL_law_1562 (z_aload 4 dL_law_1563 rfl ?_)
      refine z_bind (fun r255 hb256 => ?_)
      refine z_callSH (kc' := kn) (ks' := qn) (v := some (.int r255.1)) (S1 := (zSc S r255.2.1 r255.2.2.1)) (w1 := r255.2.2.2) (st := []) [.ref x1, .int (xs (zix (x5 + (1 : Int32)))), .ref x4] (m_L_load hW w x1 hx1 (xs (zix (x5 + (1 : Int32)))) x4 hx4 r255 hb256) zy_L_load gw952 gw951 (Nat.le_of_ble_eq_true rfl) (Nat.le_of_ble_eq_true rfl) (by omega) (by omega) (zal hW) rfl dL_law_1565 (z_at 1568 _ [.int r255.1] rfl rfl rfl ?_)
      refine z_pc (pc' := 1568) rfl ?_
      exact m_L_law_j1568 (S := (zSc S r255.2.1 r255.2.2.1)) (zSc_WF hW) r255.2.2.2 x0 hx0 x1 (zSc_obj hx1) x2 (zSc_obj hx2) x3 (zSc_arr hx3) x4 (zSc_arr hx4) x5 r255.1 L xs hL9 hx9 kn qn k hk 
    refine z_ite _ (fun q269 => ?_) (fun q269 => ?_)
    · refine z_tabIn (off := 1590) 1634 dL_law_44 (by rw [q269]; decide) (by rw [q269]; decide) (by rw [q269]; decide) rfl ?_
      refine z_aload_n 1 dL_law_1634 rfl (z_aload 4 dL_law_1635 rfl ?_)
      refine z_bind (fun r270 hb271 => ?_)
      refine z_callSH (kc' := kn) (ks' := qn) (v := some (.int r270.1)) (S1 := (zSc S r270.2.1 r270.2.2.1)) (w1 := r270.2.2.2) (st := []) [.ref x1, .ref x4] (m_L_meanJob hW w x1 hx1 x4 hx4 r270 hb271) zy_L_meanJob gw976 gw975 (Nat.le_of_ble_eq_true rfl) (Nat.le_of_ble_eq_true rfl) (by omega) (by omega) (zal hW) rfl dL_law_1637 (z_at 1640 _ [.int r270.1] rfl rfl rfl ?_)
      refine z_pc (pc' := 1640) rfl ?_
      exact m_L_law_j1640 (S := (zSc S r270.2.1 r270.2.2.1)) (zSc_WF hW) r270.2.2.2 x0 hx0 x1 (zSc_obj hx1) x2 (zSc_obj hx2) x3 (zSc_arr hx3) x4 (zSc_arr hx4) x5 r270.1 L xs hL9 hx9 kn qn k hk 
    refine z_ite _ (fun q282 => ?_) (fun q282 => ?_)
    · refine z_tabIn (off := 1655) 1699 dL_law_44 (by rw [q282]; decide) (by rw [q282]; decide) (by rw [q282]; decide) rfl ?_
      refine z_aload_n 1 dL_law_1699 rfl (z_aload_n 0 dL_law_1700 rfl (z_iload 5 dL_law_1701 rfl (z_iconst dL_law_1703 zi_1 (z_iadd dL_law_1704 ?_))))
      refine z_chk (fun c283 => ?_)
      refine z_sldE hL9 hx9 hx0 c283 dL_law_1705 (z_aload_n 0 dL_law_1706 rfl (z_iload 5 dL_law_1707 rfl (z_iconst dL_law_1709 zi_2 (z_iadd dL_law_1710 ?_))))
      refine z_chk (fun c284 => ?_)
      refine z_sldE hL9 hx9 hx0 c284 dL_law_1711 (z_aload_n 3 dL_law_1712 rfl ?_)
      refine z_bind (fun r285 hb286 => ?_)
      refine z_callSH (kc' := kn) (ks' := qn) (v := some (.int r285.1)) (S1 := (zSc S r285.2.1 r285.2.2.1)) (w1 := r285.2.2.2) (st := []) [.ref x1, .int (xs (zix (x5 + (1 : Int32)))), .int (xs (zix (x5 + (2 : Int32)))), .ref x3] (m_L_report hW w x1 hx1 (xs (zix (x5 + (1 : Int32)))) (xs (zix (x5 + (2 : Int32)))) x3 hx3 r285 hb286) zy_L_report gw985 gw984 (Nat.le_of_ble_eq_true rfl) (Nat.le_of_ble_eq_true rfl) (by omega) (by omega) (zal hW) rfl dL_law_1713 (z_at 1716 _ [.int r285.1] rfl rfl rfl ?_)
      refine z_pc (pc' := 1716) rfl ?_
      exact m_L_law_j1716 (S := (zSc S r285.2.1 r285.2.2.1)) (zSc_WF hW) r285.2.2.2 x0 hx0 x1 (zSc_obj hx1) x2 (zSc_obj hx2) x3 (zSc_arr hx3) x4 (zSc_arr hx4) x5 r285.1 L xs hL9 hx9 kn qn k hk 
    refine z_ite _ (fun q295 => ?_) (fun q295 => ?_)
    · refine z_tabIn (off := 1723) 1767 dL_law_44 (by rw [q295]; decide) (by rw [q295]; decide) (by rw [q295]; decide) rfl ?_
      refine z_aload_n 1 dL_law_1767 rfl (z_aload_n 0 dL_law_1768 rfl (z_iload 5 dL_law_1769 rfl (z_iconst dL_law_1771 zi_1 (z_iadd dL_law_1772 ?_))))
      refine z_chk (fun c296 => ?_)
      refine z_sldE hL9 hx9 hx0 c296 dL_law_1773 (z_i2c (v := (zi2c ((xs (zix (x5 + (1 : Int32))))))) dL_law_1774 rfl (z_aload_n 3 dL_law_1775 rfl ?_))
      refine z_bind (fun r297 hb298 => ?_)
      refine z_callSH (kc' := kn) (ks' := qn) (v := some (.int r297.1)) (S1 := (zSc S r297.2.1 r297.2.2.1)) (w1 := r297.2.2.2) (st := []) [.ref x1, .int (zi2c ((xs (zix (x5 + (1 : Int32)))))), .ref x3] (m_L_feed hW w x1 hx1 (zi2c ((xs (zix (x5 + (1 : Int32)))))) x3 hx3 r297 hb298) zy_L_feed gw994 gw993 (Nat.le_of_ble_eq_true rfl) (Nat.le_of_ble_eq_true rfl) (by omega) (by omega) (zal hW) rfl dL_law_1776 (z_at 1779 _ [.int r297.1] rfl rfl rfl ?_)
      refine z_pc (pc' := 1779) rfl ?_
      exact m_L_law_j1779 (S := (zSc S r297.2.1 r297.2.2.1)) (zSc_WF hW) r297.2.2.2 x0 hx0 x1 (zSc_obj hx1) x2 (zSc_obj hx2) x3 (zSc_arr hx3) x4 (zSc_arr hx4) x5 r297.1 L xs hL9 hx9 kn qn k hk 
    refine z_ite _ (fun q306 => ?_) (fun q306 => ?_)
    · refine z_tabIn (off := 1781) 1825 dL_law_44 (by rw [q306]; decide) (by rw [q306]; decide) (by rw [q306]; decide) rfl ?_
      refine z_aload_n 1 dL_law_1825 rfl (z_aload_n 3 dL_law_1826 rfl ?_)
      refine z_bind (fun r307 hb308 => ?_)
      refine z_callSH (kc' := kn) (ks' := qn) (v := some (.int r307.1)) (S1 := (zSc S r307.2.1 r307.2.2.1)) (w1 := r307.2.2.2) (st := []) [.ref x1, .ref x3] (m_L_perform hW w x1 hx1 x3 hx3 r307 hb308) zy_L_perform gw1010 gw1009 (Nat.le_of_ble_eq_true rfl) (Nat.le_of_ble_eq_true rfl) (by omega) (by omega) (zal hW) rfl dL_law_1827 (z_at 1830 _ [.int r307.1] rfl rfl rfl ?_)
      refine z_pc (pc' := 1830) rfl ?_
      exact m_L_law_j1830 (S := (zSc S r307.2.1 r307.2.2.1)) (zSc_WF hW) r307.2.2.2 x0 hx0 x1 (zSc_obj hx1) x2 (zSc_obj hx2) x3 (zSc_arr hx3) x4 (zSc_arr hx4) x5 r307.1 L xs hL9 hx9 kn qn k hk 
    refine z_ite _ (fun q315 => ?_) (fun q315 => ?_)
    · refine z_tabIn (off := 1825) 1869 dL_law_44 (by rw [q315]; decide) (by rw [q315]; decide) (by rw [q315]; decide) rfl ?_
      refine z_aload_n 1 dL_law_1869 rfl (z_aload_n 3 dL_law_1870 rfl ?_)
      refine z_bind (fun r316 hb317 => ?_)
      refine z_callSH (kc' := kn) (ks' := qn) (v := some (.int r316.1)) (S1 := (zSc S r316.2.1 r316.2.2.1)) (w1 := r316.2.2.2) (st := []) [.ref x1, .ref x3] (m_L_undo hW w x1 hx1 x3 hx3 r316 hb317) zy_L_undo gw1070 gw1069 (Nat.le_of_ble_eq_true rfl) (Nat.le_of_ble_eq_true rfl) (by omega) (by omega) (zal hW) rfl dL_law_1871 (z_at 1874 _ [.int r316.1] rfl rfl rfl ?_)
      refine z_pc (pc' := 1874) rfl ?_
      exact m_L_law_j1874 (S := (zSc S r316.2.1 r316.2.2.1)) (zSc_WF hW) r316.2.2.2 x0 hx0 x1 (zSc_obj hx1) x2 (zSc_obj hx2) x3 (zSc_arr hx3) x4 (zSc_arr hx4) x5 r316.1 L xs hL9 hx9 kn qn k hk 
    refine z_ite _ (fun q324 => ?_) (fun q324 => ?_)
    · refine z_tabIn (off := 1869) 1913 dL_law_44 (by rw [q324]; decide) (by rw [q324]; decide) (by rw [q324]; decide) rfl ?_
      refine z_aload_n 1 dL_law_1913 rfl ?_
      refine z_bind (fun r325 hb326 => ?_)
      refine z_callV (kc' := (kn + 2)) (ks' := (qn + 12)) (v := (some (.int r325.1))) (S1 := S) (w1 := r325.2) (st := []) [] (m_X7_save hW w x1 hx1 r325 hb326) zc7 hx1 zy_X7_save gw402 gw403 gw401 (Nat.le_of_ble_eq_true rfl) (Nat.le_of_ble_eq_true rfl) (Nat.le_of_eq (Nat.zero_add _)) (Nat.le_of_eq (Nat.zero_add _)) (zal hW) rfl dL_law_1914 (z_at 1917 _ [.int r325.1] rfl rfl rfl ?_)
      refine z_aload_n 2 dL_law_1917 rfl ?_
      refine z_bind (fun r327 hb328 => ?_)
      refine z_callV (kc' := (kn + 2)) (ks' := (qn + 12)) (v := (some (.int r327.1))) (S1 := S) (w1 := r327.2) (st := [.int r325.1]) [] (m_X8_save hW r325.2 x2 hx2 r327 hb328) zc8 hx2 zy_X8_save gw1499 gw1500 gw1498 (Nat.le_of_ble_eq_true rfl) (Nat.le_of_ble_eq_true rfl) (Nat.le_of_eq (Nat.zero_add _)) (Nat.le_of_eq (Nat.zero_add _)) (zal hW) rfl dL_law_1918 (z_at 1921 _ [.int r327.1, .int r325.1] rfl rfl rfl ?_)
      refine z_icmp_eq 1970 dL_law_1921 rfl (fun q329 => ?_) (fun q329 => ?_)
      · refine z_iinc (v := (x5 + (4 : Int32))) (lv' := [(5, .int (x5 + (4 : Int32))), (0, .ref x0), (1, .ref x1), (2, .ref x2), (3, .ref x3), (4, .ref x4)]) 5 dL_law_1970 rfl (zi_inc _ zi_4) (Nat.le_of_ble_eq_true rfl) rfl (z_goto 28 dL_law_1973 rfl ?_)
        refine z_sub (lv' := [(0, .ref x0), (1, .ref x1), (2, .ref x2), (3, .ref x3), (4, .ref x4), (5, .int (x5 + (4 : Int32)))]) [1, 2, 3, 4, 5, 0] rfl ?_
        refine z_bud (kc' := kn) (ks' := qn) (by omega) (by omega) ?_
        refine z_pc (pc' := 28) rfl ?_
        exact hk ((x5 + (4 : Int32)), S.cl, S.cd, r327.2)
      · refine z_iconst dL_law_1924 zi_0 ?_
        exact z_zret zemS rfl rfl dL_law_1925
    refine z_ite _ (fun q330 => ?_) (fun q330 => ?_)
    · refine z_tabIn (off := 1882) 1926 dL_law_44 (by rw [q330]; decide) (by rw [q330]; decide) (by rw [q330]; decide) rfl ?_
      refine z_aload_n 1 dL_law_1926 rfl (z_aload_n 3 dL_law_1927 rfl ?_)
      refine z_bind (fun r331 hb332 => ?_)
      refine z_callSH (kc' := kn) (ks' := qn) (v := some (.int r331.1)) (S1 := (zSc S r331.2.1 r331.2.2.1)) (w1 := r331.2.2.2) (st := []) [.ref x1, .ref x3] (m_L_restore hW w x1 hx1 x3 hx3 r331 hb332) zy_L_restore gw1086 gw1085 (Nat.le_of_ble_eq_true rfl) (Nat.le_of_ble_eq_true rfl) (by omega) (by omega) (zal hW) rfl dL_law_1928 (z_at 1931 _ [.int r331.1] rfl rfl rfl ?_)
      refine z_pc (pc' := 1931) rfl ?_
      exact m_L_law_j1931 (S := (zSc S r331.2.1 r331.2.2.1)) (zSc_WF hW) r331.2.2.2 x0 hx0 x1 (zSc_obj hx1) x2 (zSc_obj hx2) x3 (zSc_arr hx3) x4 (zSc_arr hx4) x5 r331.1 L xs hL9 hx9 kn qn k hk 
    refine z_tabOut 1970 dL_law_44 ?_ rfl ?_
    · have n0 := zsw_ne (k := 0) (0 : Int32) (by decide) q3; have n1 := zsw_ne (k := 1) (1 : Int32) (by decide) q16; have n2 := zsw_ne (k := 2) (2 : Int32) (by decide) q27; have n3 := zsw_ne (k := 3) (3 : Int32) (by decide) q40; have n4 := zsw_ne (k := 4) (4 : Int32) (by decide) q53; have n5 := zsw_ne (k := 5) (5 : Int32) (by decide) q64; have n6 := zsw_ne (k := 6) (6 : Int32) (by decide) q80; have n7 := zsw_ne (k := 7) (7 : Int32) (by decide) q93; have n8 := zsw_ne (k := 8) (8 : Int32) (by decide) q106; have n9 := zsw_ne (k := 9) (9 : Int32) (by decide) q117; have n10 := zsw_ne (k := 10) (10 : Int32) (by decide) q128; have n11 := zsw_ne (k := 11) (11 : Int32) (by decide) q141; have n12 := zsw_ne (k := 12) (12 : Int32) (by decide) q154; have n13 := zsw_ne (k := 13) (13 : Int32) (by decide) q169; have n14 := zsw_ne (k := 14) (14 : Int32) (by decide) q182; have n15 := zsw_ne (k := 15) (15 : Int32) (by decide) q195; have n16 := zsw_ne (k := 16) (16 : Int32) (by decide) q201; have n17 := zsw_ne (k := 17) (17 : Int32) (by decide) q212; have n18 := zsw_ne (k := 18) (18 : Int32) (by decide) q225; have n19 := zsw_ne (k := 19) (19 : Int32) (by decide) q229; have n20 := zsw_ne (k := 20) (20 : Int32) (by decide) q242; have n21 := zsw_ne (k := 21) (21 : Int32) (by decide) q253; have n22 := zsw_ne (k := 22) (22 : Int32) (by decide) q269; have n23 := zsw_ne (k := 23) (23 : Int32) (by decide) q282; have n24 := zsw_ne (k := 24) (24 : Int32) (by decide) q295; have n25 := zsw_ne (k := 25) (25 : Int32) (by decide) q306; have n26 := zsw_ne (k := 26) (26 : Int32) (by decide) q315; have n27 := zsw_ne (k := 27) (27 : Int32) (by decide) q324; have n28 := zsw_ne (k := 28) (28 : Int32) (by decide) q330; omega
    refine z_iinc (v := (x5 + (4 : Int32))) (lv' := [(5, .int (x5 + (4 : Int32))), (0, .ref x0), (1, .ref x1), (2, .ref x2), (3, .ref x3), (4, .ref x4)]) 5 dL_law_1970 rfl (zi_inc _ zi_4) (Nat.le_of_ble_eq_true rfl) rfl (z_goto 28 dL_law_1973 rfl ?_)
    refine z_sub (lv' := [(0, .ref x0), (1, .ref x1), (2, .ref x2), (3, .ref x3), (4, .ref x4), (5, .int (x5 + (4 : Int32)))]) [1, 2, 3, 4, 5, 0] rfl ?_
    refine z_bud (kc' := kn) (ks' := qn) (by omega) (by omega) ?_
    refine z_pc (pc' := 28) rfl ?_
    exact hk ((x5 + (4 : Int32)), S.cl, S.cd, w)

def f_law (S : Zs) (L : Nat) (xs : Nat → Int32) (x0 x1 x2 x3 x4 : Nat) : Nat → (Int32 × (Nat → Nat → Int64) × (Nat → Nat → UInt64) × Zw) → Option (Int32 × (Nat → Nat → Int64) × (Nat → Nat → UInt64) × Zw) :=
  zlp (fun k a => f_law_b (zSc S a.2.1 a.2.2.1) L xs x0 x1 x2 x3 x4 k a.1 a.2.2.2)
theorem m_law {E : ZE} {S : Zs} (hW : zWF S) (x0 : Nat) (hx0 : x0 = 0) (x1 : Nat) (hx1 : zObj S x1 7) (x2 : Nat) (hx2 : zObj S x2 8) (x3 : Nat) (hx3 : zArr S x3 3) (x4 : Nat) (hx4 : zArr S x4 4) (L : Nat) (xs : Nat → Int32) (hL9 : E.L = L) (hx9 : E.xs = xs) (n : Nat) : ∀ a : Int32 × (Nat → Nat → Int64) × (Nat → Nat → UInt64) × Zw, zOk (E, i_L_law, 100) (n * 2) (n * 12) (zSc S a.2.1 a.2.2.1) a.2.2.2 28 [(0, .ref x0), (1, .ref x1), (2, .ref x2), (3, .ref x3), (4, .ref x4), (5, .int a.1)] [] (emS eI S) (f_law S L xs x0 x1 x2 x3 x4 n a) := by
  induction n with
  | zero => exact fun a => z_none
  | succ n ih =>
    intro a
    rw [Nat.succ_mul, Nat.succ_mul]
    exact m_law_b (S := zSc S a.2.1 a.2.2.1) (zSc_WF hW) x0 hx0 x1 (zSc_obj hx1) x2 (zSc_obj hx2) x3 (zSc_arr hx3) x4 (zSc_arr hx4) L xs hL9 hx9 (n * 2) (n * 12) _ ih a.1 a.2.2.2
end ZLW
