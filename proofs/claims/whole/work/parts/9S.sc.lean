/-! THE REFERENCE does not look at the law's own rows. -/
section ZSCX
variable {S : Zs} {cl : Nat → Nat → Int64} {cd : Nat → Nat → UInt64}
theorem zsc_store (w : Zw) (a b : Int32) : f_X8_store (zSc S cl cd) w 255 a b = f_X8_store S w 255 a b := rfl
theorem zsc_retrieve (w : Zw) (a : Int32) : f_X8_retrieve (zSc S cl cd) w 255 a = f_X8_retrieve S w 255 a := rfl
theorem zsc_book (w : Zw) (a b : Int32) : f_X8_book (zSc S cl cd) w 255 a b = f_X8_book S w 255 a b := rfl
theorem zsc_car (w : Zw) (a b : Int32) : f_X8_car (zSc S cl cd) w 255 a b = f_X8_car S w 255 a b := rfl
theorem zsc_due (w : Zw) (a : Int32) : f_X8_due (zSc S cl cd) w 255 a = f_X8_due S w 255 a := rfl
theorem zsc_setClosed (w : Zw) (a b : Int32) : f_X8_setClosed (zSc S cl cd) w 255 a b = f_X8_setClosed S w 255 a b := rfl
theorem zsc_bay (w : Zw) (a b : Int32) : f_X8_bay (zSc S cl cd) w 255 a b = f_X8_bay S w 255 a b := rfl
theorem zsc_choice (w : Zw) (a b : Int32) : f_X8_choice (zSc S cl cd) w 255 a b = f_X8_choice S w 255 a b := rfl
theorem zsc_refuge (w : Zw) (a : Int32) : f_X8_refuge (zSc S cl cd) w 255 a = f_X8_refuge S w 255 a := rfl
theorem zsc_bays (w : Zw) (a : Int32) : f_X8_bays (zSc S cl cd) w 255 a = f_X8_bays S w 255 a := rfl
theorem zsc_bestMoves (w : Zw) (a : Int64) : f_X8_bestMoves (zSc S cl cd) w 255 a = f_X8_bestMoves S w 255 a := rfl
theorem zsc_bestEnd (w : Zw) (a : Int64) : f_X8_bestEnd (zSc S cl cd) w 255 a = f_X8_bestEnd S w 255 a := rfl
theorem zsc_bestCar (w : Zw) (a : Int64) (b : Int32) : f_X8_bestCar (zSc S cl cd) w 255 a b = f_X8_bestCar S w 255 a b := rfl
theorem zsc_plainMoves (w : Zw) (a : Int64) : f_X8_plainMoves (zSc S cl cd) w 255 a = f_X8_plainMoves S w 255 a := rfl
theorem zsc_retrieveAll (w : Zw) (a : Int64) : f_X8_retrieveAll (zSc S cl cd) w 255 a = f_X8_retrieveAll S w 255 a := rfl
theorem zsc_tidy (w : Zw)  : f_X8_tidy (zSc S cl cd) w 255  = f_X8_tidy S w 255  := rfl
theorem zsc_pass (w : Zw) (a : Int32) : f_X8_pass (zSc S cl cd) w 255 a = f_X8_pass S w 255 a := rfl
theorem zsc_machine (w : Zw) (a b : Int32) : f_X8_machine (zSc S cl cd) w 255 a b = f_X8_machine S w 255 a b := rfl
theorem zsc_jobs (w : Zw)  : f_X8_jobs (zSc S cl cd) w 255  = f_X8_jobs S w 255  := rfl
theorem zsc_job (w : Zw) (a b : Int32) : f_X8_job (zSc S cl cd) w 255 a b = f_X8_job S w 255 a b := rfl
theorem zsc_account (w : Zw) (a : Int32) : f_X8_account (zSc S cl cd) w 255 a = f_X8_account S w 255 a := rfl
theorem zsc_load (w : Zw) (a : Int32) : f_X8_load (zSc S cl cd) w 255 a = f_X8_load S w 255 a := rfl
theorem zsc_meanJob (w : Zw)  : f_X8_meanJob (zSc S cl cd) w 255  = f_X8_meanJob S w 255  := rfl
theorem zsc_report (w : Zw) (a b : Int32) : f_X8_report (zSc S cl cd) w 255 a b = f_X8_report S w 255 a b := rfl
theorem zsc_feed (w : Zw) (a : Int32) : f_X8_feed (zSc S cl cd) w 255 a = f_X8_feed S w 255 a := rfl
theorem zsc_perform (w : Zw)  : f_X8_perform (zSc S cl cd) w 255  = f_X8_perform S w 255  := rfl
theorem zsc_undo (w : Zw)  : f_X8_undo (zSc S cl cd) w 255  = f_X8_undo S w 255  := rfl
theorem zsc_save (w : Zw)  : f_X8_save (zSc S cl cd) w 255  = f_X8_save S w 255  := rfl
theorem zsc_restore (w : Zw)  : f_X8_restore (zSc S cl cd) w 255  = f_X8_restore S w 255  := rfl
theorem zsc_thrown (w : Zw) : f_X8_thrown (zSc S cl cd) w 255 = w 255 0 := rfl
end ZSCX
