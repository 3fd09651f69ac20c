section
/-- a private method of a class that the tables say can be made, by its rows of tables_1 -/
def lw_okq (q : MethodName × Nat) : Prop := (q.1.cls ≠ "java/lang/invoke/MethodHandle" ∧ q.1.cls ≠ "java/lang/invoke/VarHandle") ∧ Cond.instantiable q.1.cls q.2 ∈ tables_1 ∧ Cond.privateMethod q.1 ∈ tables_1 ∧ Cond.instanceMethod q.1 ∈ tables_1
theorem lw_p0 : lw_okq (⟨"ParkingRobot$Garage", "freeFromLater", "(I)V"⟩, 11) := ⟨⟨by decide +kernel, by decide +kernel⟩, List.mem_of_getElem? (i := 33) (by decide +kernel), List.mem_of_getElem? (i := 297) (by decide +kernel), List.mem_of_getElem? (i := 298) (by decide +kernel)⟩
theorem lw_p1 : lw_okq (⟨"ParkingRobot$Garage", "isBad", "(II)Z"⟩, 11) := ⟨⟨by decide +kernel, by decide +kernel⟩, List.mem_of_getElem? (i := 33) (by decide +kernel), List.mem_of_getElem? (i := 328) (by decide +kernel), List.mem_of_getElem? (i := 329) (by decide +kernel)⟩
theorem lw_p2 : lw_okq (⟨"ParkingRobot$Garage", "moveCar", "(II)V"⟩, 11) := ⟨⟨by decide +kernel, by decide +kernel⟩, List.mem_of_getElem? (i := 33) (by decide +kernel), List.mem_of_getElem? (i := 332) (by decide +kernel), List.mem_of_getElem? (i := 333) (by decide +kernel)⟩
theorem lw_p3 : lw_okq (⟨"ParkingRobot", "checkSizeAndPickup", "(II)V"⟩, 8) := ⟨⟨by decide +kernel, by decide +kernel⟩, List.mem_of_getElem? (i := 25) (by decide +kernel), List.mem_of_getElem? (i := 421) (by decide +kernel), List.mem_of_getElem? (i := 422) (by decide +kernel)⟩
theorem lw_p4 : lw_okq (⟨"java/lang/Throwable", "fillInStackTrace", "(I)Ljava/lang/Throwable;"⟩, 6) := ⟨⟨by decide +kernel, by decide +kernel⟩, List.mem_of_getElem? (i := 470) (by decide +kernel), List.mem_of_getElem? (i := 468) (by decide +kernel), List.mem_of_getElem? (i := 469) (by decide +kernel)⟩
theorem lw_p5 : lw_okq (⟨"ParkingRobot", "checkStored", "(I)V"⟩, 8) := ⟨⟨by decide +kernel, by decide +kernel⟩, List.mem_of_getElem? (i := 25) (by decide +kernel), List.mem_of_getElem? (i := 576) (by decide +kernel), List.mem_of_getElem? (i := 577) (by decide +kernel)⟩
theorem lw_p6 : lw_okq (⟨"ParkingRobot", "fetchOrReport", "(I)I"⟩, 8) := ⟨⟨by decide +kernel, by decide +kernel⟩, List.mem_of_getElem? (i := 25) (by decide +kernel), List.mem_of_getElem? (i := 594) (by decide +kernel), List.mem_of_getElem? (i := 595) (by decide +kernel)⟩
theorem lw_p7 : lw_okq (⟨"ParkingRobot$Garage", "takeOut", "(I)V"⟩, 11) := ⟨⟨by decide +kernel, by decide +kernel⟩, List.mem_of_getElem? (i := 33) (by decide +kernel), List.mem_of_getElem? (i := 602) (by decide +kernel), List.mem_of_getElem? (i := 603) (by decide +kernel)⟩
theorem lw_p8 : lw_okq (⟨"ParkingRobot", "checkTime", "(I)V"⟩, 8) := ⟨⟨by decide +kernel, by decide +kernel⟩, List.mem_of_getElem? (i := 25) (by decide +kernel), List.mem_of_getElem? (i := 623) (by decide +kernel), List.mem_of_getElem? (i := 624) (by decide +kernel)⟩
theorem lw_p9 : lw_okq (⟨"ParkingRobot", "checkBay", "(I)V"⟩, 8) := ⟨⟨by decide +kernel, by decide +kernel⟩, List.mem_of_getElem? (i := 25) (by decide +kernel), List.mem_of_getElem? (i := 674) (by decide +kernel), List.mem_of_getElem? (i := 675) (by decide +kernel)⟩
theorem lw_p10 : lw_okq (⟨"ParkingRobot", "checkSet", "(J)V"⟩, 8) := ⟨⟨by decide +kernel, by decide +kernel⟩, List.mem_of_getElem? (i := 25) (by decide +kernel), List.mem_of_getElem? (i := 765) (by decide +kernel), List.mem_of_getElem? (i := 766) (by decide +kernel)⟩
theorem lw_p11 : lw_okq (⟨"ParkingRobot$Orders", "begin", "(LParkingRobot$Garage;)V"⟩, 8) := ⟨⟨by decide +kernel, by decide +kernel⟩, List.mem_of_getElem? (i := 155) (by decide +kernel), List.mem_of_getElem? (i := 776) (by decide +kernel), List.mem_of_getElem? (i := 777) (by decide +kernel)⟩
theorem lw_p12 : lw_okq (⟨"ParkingRobot$Orders", "tryFrom", "(I)V"⟩, 8) := ⟨⟨by decide +kernel, by decide +kernel⟩, List.mem_of_getElem? (i := 155) (by decide +kernel), List.mem_of_getElem? (i := 786) (by decide +kernel), List.mem_of_getElem? (i := 787) (by decide +kernel)⟩
theorem lw_p13 : lw_okq (⟨"ParkingRobot$Orders", "movesAt", "(I)I"⟩, 8) := ⟨⟨by decide +kernel, by decide +kernel⟩, List.mem_of_getElem? (i := 155) (by decide +kernel), List.mem_of_getElem? (i := 790) (by decide +kernel), List.mem_of_getElem? (i := 791) (by decide +kernel)⟩
theorem lw_p14 : lw_okq (⟨"ParkingRobot$Orders", "judge", "(ILParkingRobot$JobLog;)V"⟩, 8) := ⟨⟨by decide +kernel, by decide +kernel⟩, List.mem_of_getElem? (i := 155) (by decide +kernel), List.mem_of_getElem? (i := 794) (by decide +kernel), List.mem_of_getElem? (i := 795) (by decide +kernel)⟩
theorem lw_p15 : lw_okq (⟨"ParkingRobot$Orders", "tryNext", "(II)V"⟩, 8) := ⟨⟨by decide +kernel, by decide +kernel⟩, List.mem_of_getElem? (i := 155) (by decide +kernel), List.mem_of_getElem? (i := 809) (by decide +kernel), List.mem_of_getElem? (i := 810) (by decide +kernel)⟩
def lw_privs_1 : List (MethodName × Nat) := [(⟨"ParkingRobot$Garage", "freeFromLater", "(I)V"⟩, 11), (⟨"ParkingRobot$Garage", "isBad", "(II)Z"⟩, 11), (⟨"ParkingRobot$Garage", "moveCar", "(II)V"⟩, 11), (⟨"ParkingRobot", "checkSizeAndPickup", "(II)V"⟩, 8), (⟨"java/lang/Throwable", "fillInStackTrace", "(I)Ljava/lang/Throwable;"⟩, 6), (⟨"ParkingRobot", "checkStored", "(I)V"⟩, 8), (⟨"ParkingRobot", "fetchOrReport", "(I)I"⟩, 8), (⟨"ParkingRobot$Garage", "takeOut", "(I)V"⟩, 11), (⟨"ParkingRobot", "checkTime", "(I)V"⟩, 8), (⟨"ParkingRobot", "checkBay", "(I)V"⟩, 8), (⟨"ParkingRobot", "checkSet", "(J)V"⟩, 8), (⟨"ParkingRobot$Orders", "begin", "(LParkingRobot$Garage;)V"⟩, 8), (⟨"ParkingRobot$Orders", "tryFrom", "(I)V"⟩, 8), (⟨"ParkingRobot$Orders", "movesAt", "(I)I"⟩, 8), (⟨"ParkingRobot$Orders", "judge", "(ILParkingRobot$JobLog;)V"⟩, 8), (⟨"ParkingRobot$Orders", "tryNext", "(II)V"⟩, 8)]
theorem lw_r1 : ∀ q ∈ lw_privs_1, lw_okq q := List.forall_mem_cons.mpr ⟨lw_p0, List.forall_mem_cons.mpr ⟨lw_p1, List.forall_mem_cons.mpr ⟨lw_p2, List.forall_mem_cons.mpr ⟨lw_p3, List.forall_mem_cons.mpr ⟨lw_p4, List.forall_mem_cons.mpr ⟨lw_p5, List.forall_mem_cons.mpr ⟨lw_p6, List.forall_mem_cons.mpr ⟨lw_p7, List.forall_mem_cons.mpr ⟨lw_p8, List.forall_mem_cons.mpr ⟨lw_p9, List.forall_mem_cons.mpr ⟨lw_p10, List.forall_mem_cons.mpr ⟨lw_p11, List.forall_mem_cons.mpr ⟨lw_p12, List.forall_mem_cons.mpr ⟨lw_p13, List.forall_mem_cons.mpr ⟨lw_p14, List.forall_mem_cons.mpr ⟨lw_p15, fun _ h => absurd h List.not_mem_nil⟩⟩⟩⟩⟩⟩⟩⟩⟩⟩⟩⟩⟩⟩⟩⟩
theorem lw_p16 : lw_okq (⟨"ParkingRobot$Orders", "isTooLong", "(I)Z"⟩, 8) := ⟨⟨by decide +kernel, by decide +kernel⟩, List.mem_of_getElem? (i := 155) (by decide +kernel), List.mem_of_getElem? (i := 814) (by decide +kernel), List.mem_of_getElem? (i := 815) (by decide +kernel)⟩
theorem lw_p17 : lw_okq (⟨"ParkingRobot", "checkPossible", "(Z)V"⟩, 8) := ⟨⟨by decide +kernel, by decide +kernel⟩, List.mem_of_getElem? (i := 25) (by decide +kernel), List.mem_of_getElem? (i := 818) (by decide +kernel), List.mem_of_getElem? (i := 819) (by decide +kernel)⟩
theorem lw_p18 : lw_okq (⟨"ParkingRobot", "checkMachine", "(I)V"⟩, 8) := ⟨⟨by decide +kernel, by decide +kernel⟩, List.mem_of_getElem? (i := 25) (by decide +kernel), List.mem_of_getElem? (i := 896) (by decide +kernel), List.mem_of_getElem? (i := 897) (by decide +kernel)⟩
theorem lw_p19 : lw_okq (⟨"ParkingRobot$CommandText", "readCommand", "(I)Z"⟩, 7) := ⟨⟨by decide +kernel, by decide +kernel⟩, List.mem_of_getElem? (i := 188) (by decide +kernel), List.mem_of_getElem? (i := 1021) (by decide +kernel), List.mem_of_getElem? (i := 1022) (by decide +kernel)⟩
theorem lw_p20 : lw_okq (⟨"ParkingRobot$CommandText", "letterHere", "()I"⟩, 7) := ⟨⟨by decide +kernel, by decide +kernel⟩, List.mem_of_getElem? (i := 188) (by decide +kernel), List.mem_of_getElem? (i := 1025) (by decide +kernel), List.mem_of_getElem? (i := 1026) (by decide +kernel)⟩
theorem lw_p21 : lw_okq (⟨"ParkingRobot$CommandText", "readSize", "(I)Z"⟩, 7) := ⟨⟨by decide +kernel, by decide +kernel⟩, List.mem_of_getElem? (i := 188) (by decide +kernel), List.mem_of_getElem? (i := 1029) (by decide +kernel), List.mem_of_getElem? (i := 1030) (by decide +kernel)⟩
theorem lw_p22 : lw_okq (⟨"ParkingRobot$CommandText", "readLetter", "(C)Z"⟩, 7) := ⟨⟨by decide +kernel, by decide +kernel⟩, List.mem_of_getElem? (i := 188) (by decide +kernel), List.mem_of_getElem? (i := 1033) (by decide +kernel), List.mem_of_getElem? (i := 1034) (by decide +kernel)⟩
theorem lw_p23 : lw_okq (⟨"ParkingRobot$CommandText", "readNumber", "(I)Z"⟩, 7) := ⟨⟨by decide +kernel, by decide +kernel⟩, List.mem_of_getElem? (i := 188) (by decide +kernel), List.mem_of_getElem? (i := 1037) (by decide +kernel), List.mem_of_getElem? (i := 1038) (by decide +kernel)⟩
theorem lw_p24 : lw_okq (⟨"ParkingRobot", "carryOut", "(CII)Z"⟩, 8) := ⟨⟨by decide +kernel, by decide +kernel⟩, List.mem_of_getElem? (i := 25) (by decide +kernel), List.mem_of_getElem? (i := 1061) (by decide +kernel), List.mem_of_getElem? (i := 1062) (by decide +kernel)⟩
theorem lw_p25 : lw_okq (⟨"ParkingRobotModel", "begins", "()V"⟩, 27) := ⟨⟨by decide +kernel, by decide +kernel⟩, List.mem_of_getElem? (i := 1102) (by decide +kernel), List.mem_of_getElem? (i := 1194) (by decide +kernel), List.mem_of_getElem? (i := 1195) (by decide +kernel)⟩
theorem lw_p26 : lw_okq (⟨"ParkingRobotModel", "stores", "(II)I"⟩, 27) := ⟨⟨by decide +kernel, by decide +kernel⟩, List.mem_of_getElem? (i := 1102) (by decide +kernel), List.mem_of_getElem? (i := 1201) (by decide +kernel), List.mem_of_getElem? (i := 1202) (by decide +kernel)⟩
theorem lw_p27 : lw_okq (⟨"ParkingRobotModel", "fails", "(I)I"⟩, 27) := ⟨⟨by decide +kernel, by decide +kernel⟩, List.mem_of_getElem? (i := 1102) (by decide +kernel), List.mem_of_getElem? (i := 1214) (by decide +kernel), List.mem_of_getElem? (i := 1215) (by decide +kernel)⟩
theorem lw_p28 : lw_okq (⟨"ParkingRobotModel", "chosen", "(III)I"⟩, 27) := ⟨⟨by decide +kernel, by decide +kernel⟩, List.mem_of_getElem? (i := 1102) (by decide +kernel), List.mem_of_getElem? (i := 1218) (by decide +kernel), List.mem_of_getElem? (i := 1219) (by decide +kernel)⟩
theorem lw_p29 : lw_okq (⟨"ParkingRobotModel", "isEmpty", "(I)Z"⟩, 27) := ⟨⟨by decide +kernel, by decide +kernel⟩, List.mem_of_getElem? (i := 1102) (by decide +kernel), List.mem_of_getElem? (i := 1222) (by decide +kernel), List.mem_of_getElem? (i := 1223) (by decide +kernel)⟩
theorem lw_p30 : lw_okq (⟨"ParkingRobotModel", "isReached", "(I)Z"⟩, 27) := ⟨⟨by decide +kernel, by decide +kernel⟩, List.mem_of_getElem? (i := 1102) (by decide +kernel), List.mem_of_getElem? (i := 1232) (by decide +kernel), List.mem_of_getElem? (i := 1233) (by decide +kernel)⟩
theorem lw_p31 : lw_okq (⟨"ParkingRobotModel", "isBad", "(II)Z"⟩, 27) := ⟨⟨by decide +kernel, by decide +kernel⟩, List.mem_of_getElem? (i := 1102) (by decide +kernel), List.mem_of_getElem? (i := 1246) (by decide +kernel), List.mem_of_getElem? (i := 1247) (by decide +kernel)⟩
def lw_privs_2 : List (MethodName × Nat) := [(⟨"ParkingRobot$Orders", "isTooLong", "(I)Z"⟩, 8), (⟨"ParkingRobot", "checkPossible", "(Z)V"⟩, 8), (⟨"ParkingRobot", "checkMachine", "(I)V"⟩, 8), (⟨"ParkingRobot$CommandText", "readCommand", "(I)Z"⟩, 7), (⟨"ParkingRobot$CommandText", "letterHere", "()I"⟩, 7), (⟨"ParkingRobot$CommandText", "readSize", "(I)Z"⟩, 7), (⟨"ParkingRobot$CommandText", "readLetter", "(C)Z"⟩, 7), (⟨"ParkingRobot$CommandText", "readNumber", "(I)Z"⟩, 7), (⟨"ParkingRobot", "carryOut", "(CII)Z"⟩, 8), (⟨"ParkingRobotModel", "begins", "()V"⟩, 27), (⟨"ParkingRobotModel", "stores", "(II)I"⟩, 27), (⟨"ParkingRobotModel", "fails", "(I)I"⟩, 27), (⟨"ParkingRobotModel", "chosen", "(III)I"⟩, 27), (⟨"ParkingRobotModel", "isEmpty", "(I)Z"⟩, 27), (⟨"ParkingRobotModel", "isReached", "(I)Z"⟩, 27), (⟨"ParkingRobotModel", "isBad", "(II)Z"⟩, 27)]
theorem lw_r2 : ∀ q ∈ lw_privs_2, lw_okq q := List.forall_mem_cons.mpr ⟨lw_p16, List.forall_mem_cons.mpr ⟨lw_p17, List.forall_mem_cons.mpr ⟨lw_p18, List.forall_mem_cons.mpr ⟨lw_p19, List.forall_mem_cons.mpr ⟨lw_p20, List.forall_mem_cons.mpr ⟨lw_p21, List.forall_mem_cons.mpr ⟨lw_p22, List.forall_mem_cons.mpr ⟨lw_p23, List.forall_mem_cons.mpr ⟨lw_p24, List.forall_mem_cons.mpr ⟨lw_p25, List.forall_mem_cons.mpr ⟨lw_p26, List.forall_mem_cons.mpr ⟨lw_p27, List.forall_mem_cons.mpr ⟨lw_p28, List.forall_mem_cons.mpr ⟨lw_p29, List.forall_mem_cons.mpr ⟨lw_p30, List.forall_mem_cons.mpr ⟨lw_p31, fun _ h => absurd h List.not_mem_nil⟩⟩⟩⟩⟩⟩⟩⟩⟩⟩⟩⟩⟩⟩⟩⟩
theorem lw_p32 : lw_okq (⟨"ParkingRobotModel", "pickup", "(I)I"⟩, 27) := ⟨⟨by decide +kernel, by decide +kernel⟩, List.mem_of_getElem? (i := 1102) (by decide +kernel), List.mem_of_getElem? (i := 1250) (by decide +kernel), List.mem_of_getElem? (i := 1251) (by decide +kernel)⟩
theorem lw_p33 : lw_okq (⟨"ParkingRobotModel", "of", "(II)I"⟩, 27) := ⟨⟨by decide +kernel, by decide +kernel⟩, List.mem_of_getElem? (i := 1102) (by decide +kernel), List.mem_of_getElem? (i := 1254) (by decide +kernel), List.mem_of_getElem? (i := 1255) (by decide +kernel)⟩
theorem lw_p34 : lw_okq (⟨"ParkingRobotModel", "bringsIn", "(II)V"⟩, 27) := ⟨⟨by decide +kernel, by decide +kernel⟩, List.mem_of_getElem? (i := 1102) (by decide +kernel), List.mem_of_getElem? (i := 1258) (by decide +kernel), List.mem_of_getElem? (i := 1259) (by decide +kernel)⟩
theorem lw_p35 : lw_okq (⟨"ParkingRobotModel", "jobBegins", "()V"⟩, 27) := ⟨⟨by decide +kernel, by decide +kernel⟩, List.mem_of_getElem? (i := 1102) (by decide +kernel), List.mem_of_getElem? (i := 1262) (by decide +kernel), List.mem_of_getElem? (i := 1263) (by decide +kernel)⟩
theorem lw_p36 : lw_okq (⟨"ParkingRobotModel", "ready", "(I)I"⟩, 27) := ⟨⟨by decide +kernel, by decide +kernel⟩, List.mem_of_getElem? (i := 1102) (by decide +kernel), List.mem_of_getElem? (i := 1267) (by decide +kernel), List.mem_of_getElem? (i := 1268) (by decide +kernel)⟩
theorem lw_p37 : lw_okq (⟨"ParkingRobotModel", "at", "(I)I"⟩, 27) := ⟨⟨by decide +kernel, by decide +kernel⟩, List.mem_of_getElem? (i := 1102) (by decide +kernel), List.mem_of_getElem? (i := 1272) (by decide +kernel), List.mem_of_getElem? (i := 1273) (by decide +kernel)⟩
theorem lw_p38 : lw_okq (⟨"ParkingRobotModel", "does", "(III)V"⟩, 27) := ⟨⟨by decide +kernel, by decide +kernel⟩, List.mem_of_getElem? (i := 1102) (by decide +kernel), List.mem_of_getElem? (i := 1276) (by decide +kernel), List.mem_of_getElem? (i := 1277) (by decide +kernel)⟩
theorem lw_p39 : lw_okq (⟨"ParkingRobotModel", "notes", "(III)V"⟩, 27) := ⟨⟨by decide +kernel, by decide +kernel⟩, List.mem_of_getElem? (i := 1102) (by decide +kernel), List.mem_of_getElem? (i := 1284) (by decide +kernel), List.mem_of_getElem? (i := 1285) (by decide +kernel)⟩
theorem lw_p40 : lw_okq (⟨"ParkingRobotModel", "ends", "(I)I"⟩, 27) := ⟨⟨by decide +kernel, by decide +kernel⟩, List.mem_of_getElem? (i := 1102) (by decide +kernel), List.mem_of_getElem? (i := 1288) (by decide +kernel), List.mem_of_getElem? (i := 1289) (by decide +kernel)⟩
theorem lw_p41 : lw_okq (⟨"ParkingRobotModel", "retrieves", "(I)I"⟩, 27) := ⟨⟨by decide +kernel, by decide +kernel⟩, List.mem_of_getElem? (i := 1102) (by decide +kernel), List.mem_of_getElem? (i := 1296) (by decide +kernel), List.mem_of_getElem? (i := 1297) (by decide +kernel)⟩
theorem lw_p42 : lw_okq (⟨"ParkingRobotModel", "isCar", "(I)Z"⟩, 27) := ⟨⟨by decide +kernel, by decide +kernel⟩, List.mem_of_getElem? (i := 1102) (by decide +kernel), List.mem_of_getElem? (i := 1300) (by decide +kernel), List.mem_of_getElem? (i := 1301) (by decide +kernel)⟩
theorem lw_p43 : lw_okq (⟨"ParkingRobotModel", "bayOf", "(I)I"⟩, 27) := ⟨⟨by decide +kernel, by decide +kernel⟩, List.mem_of_getElem? (i := 1102) (by decide +kernel), List.mem_of_getElem? (i := 1304) (by decide +kernel), List.mem_of_getElem? (i := 1305) (by decide +kernel)⟩
theorem lw_p44 : lw_okq (⟨"ParkingRobotModel", "blocking", "(I)I"⟩, 27) := ⟨⟨by decide +kernel, by decide +kernel⟩, List.mem_of_getElem? (i := 1102) (by decide +kernel), List.mem_of_getElem? (i := 1308) (by decide +kernel), List.mem_of_getElem? (i := 1309) (by decide +kernel)⟩
theorem lw_p45 : lw_okq (⟨"ParkingRobotModel", "takesOut", "(I)I"⟩, 27) := ⟨⟨by decide +kernel, by decide +kernel⟩, List.mem_of_getElem? (i := 1102) (by decide +kernel), List.mem_of_getElem? (i := 1312) (by decide +kernel), List.mem_of_getElem? (i := 1313) (by decide +kernel)⟩
theorem lw_p46 : lw_okq (⟨"ParkingRobotModel", "moves", "(II)V"⟩, 27) := ⟨⟨by decide +kernel, by decide +kernel⟩, List.mem_of_getElem? (i := 1102) (by decide +kernel), List.mem_of_getElem? (i := 1316) (by decide +kernel), List.mem_of_getElem? (i := 1317) (by decide +kernel)⟩
theorem lw_p47 : lw_okq (⟨"ParkingRobotModel", "bringsOut", "(I)V"⟩, 27) := ⟨⟨by decide +kernel, by decide +kernel⟩, List.mem_of_getElem? (i := 1102) (by decide +kernel), List.mem_of_getElem? (i := 1320) (by decide +kernel), List.mem_of_getElem? (i := 1321) (by decide +kernel)⟩
def lw_privs_3 : List (MethodName × Nat) := [(⟨"ParkingRobotModel", "pickup", "(I)I"⟩, 27), (⟨"ParkingRobotModel", "of", "(II)I"⟩, 27), (⟨"ParkingRobotModel", "bringsIn", "(II)V"⟩, 27), (⟨"ParkingRobotModel", "jobBegins", "()V"⟩, 27), (⟨"ParkingRobotModel", "ready", "(I)I"⟩, 27), (⟨"ParkingRobotModel", "at", "(I)I"⟩, 27), (⟨"ParkingRobotModel", "does", "(III)V"⟩, 27), (⟨"ParkingRobotModel", "notes", "(III)V"⟩, 27), (⟨"ParkingRobotModel", "ends", "(I)I"⟩, 27), (⟨"ParkingRobotModel", "retrieves", "(I)I"⟩, 27), (⟨"ParkingRobotModel", "isCar", "(I)Z"⟩, 27), (⟨"ParkingRobotModel", "bayOf", "(I)I"⟩, 27), (⟨"ParkingRobotModel", "blocking", "(I)I"⟩, 27), (⟨"ParkingRobotModel", "takesOut", "(I)I"⟩, 27), (⟨"ParkingRobotModel", "moves", "(II)V"⟩, 27), (⟨"ParkingRobotModel", "bringsOut", "(I)V"⟩, 27)]
theorem lw_r3 : ∀ q ∈ lw_privs_3, lw_okq q := List.forall_mem_cons.mpr ⟨lw_p32, List.forall_mem_cons.mpr ⟨lw_p33, List.forall_mem_cons.mpr ⟨lw_p34, List.forall_mem_cons.mpr ⟨lw_p35, List.forall_mem_cons.mpr ⟨lw_p36, List.forall_mem_cons.mpr ⟨lw_p37, List.forall_mem_cons.mpr ⟨lw_p38, List.forall_mem_cons.mpr ⟨lw_p39, List.forall_mem_cons.mpr ⟨lw_p40, List.forall_mem_cons.mpr ⟨lw_p41, List.forall_mem_cons.mpr ⟨lw_p42, List.forall_mem_cons.mpr ⟨lw_p43, List.forall_mem_cons.mpr ⟨lw_p44, List.forall_mem_cons.mpr ⟨lw_p45, List.forall_mem_cons.mpr ⟨lw_p46, List.forall_mem_cons.mpr ⟨lw_p47, fun _ h => absurd h List.not_mem_nil⟩⟩⟩⟩⟩⟩⟩⟩⟩⟩⟩⟩⟩⟩⟩⟩
theorem lw_p48 : lw_okq (⟨"ParkingRobotModel", "open", "()I"⟩, 27) := ⟨⟨by decide +kernel, by decide +kernel⟩, List.mem_of_getElem? (i := 1102) (by decide +kernel), List.mem_of_getElem? (i := 1324) (by decide +kernel), List.mem_of_getElem? (i := 1325) (by decide +kernel)⟩
theorem lw_p49 : lw_okq (⟨"ParkingRobotModel", "jobsOf", "(I)I"⟩, 27) := ⟨⟨by decide +kernel, by decide +kernel⟩, List.mem_of_getElem? (i := 1102) (by decide +kernel), List.mem_of_getElem? (i := 1336) (by decide +kernel), List.mem_of_getElem? (i := 1337) (by decide +kernel)⟩
theorem lw_p50 : lw_okq (⟨"ParkingRobotModel", "closes", "(II)I"⟩, 27) := ⟨⟨by decide +kernel, by decide +kernel⟩, List.mem_of_getElem? (i := 1102) (by decide +kernel), List.mem_of_getElem? (i := 1348) (by decide +kernel), List.mem_of_getElem? (i := 1349) (by decide +kernel)⟩
theorem lw_p51 : lw_okq (⟨"ParkingRobotModel", "isCounted", "(II)Z"⟩, 27) := ⟨⟨by decide +kernel, by decide +kernel⟩, List.mem_of_getElem? (i := 1102) (by decide +kernel), List.mem_of_getElem? (i := 1374) (by decide +kernel), List.mem_of_getElem? (i := 1375) (by decide +kernel)⟩
theorem lw_p52 : lw_okq (⟨"ParkingRobotModel", "isSet", "(J)Z"⟩, 27) := ⟨⟨by decide +kernel, by decide +kernel⟩, List.mem_of_getElem? (i := 1102) (by decide +kernel), List.mem_of_getElem? (i := 1382) (by decide +kernel), List.mem_of_getElem? (i := 1383) (by decide +kernel)⟩
theorem lw_p53 : lw_okq (⟨"ParkingRobotModel", "isFound", "()Z"⟩, 27) := ⟨⟨by decide +kernel, by decide +kernel⟩, List.mem_of_getElem? (i := 1102) (by decide +kernel), List.mem_of_getElem? (i := 1387) (by decide +kernel), List.mem_of_getElem? (i := 1388) (by decide +kernel)⟩
theorem lw_p54 : lw_okq (⟨"ParkingRobotModel", "tries", "(I)V"⟩, 27) := ⟨⟨by decide +kernel, by decide +kernel⟩, List.mem_of_getElem? (i := 1102) (by decide +kernel), List.mem_of_getElem? (i := 1391) (by decide +kernel), List.mem_of_getElem? (i := 1392) (by decide +kernel)⟩
theorem lw_p55 : lw_okq (⟨"ParkingRobotModel", "triesRow", "()V"⟩, 27) := ⟨⟨by decide +kernel, by decide +kernel⟩, List.mem_of_getElem? (i := 1102) (by decide +kernel), List.mem_of_getElem? (i := 1395) (by decide +kernel), List.mem_of_getElem? (i := 1396) (by decide +kernel)⟩
theorem lw_p56 : lw_okq (⟨"ParkingRobotModel", "goes", "()Z"⟩, 27) := ⟨⟨by decide +kernel, by decide +kernel⟩, List.mem_of_getElem? (i := 1102) (by decide +kernel), List.mem_of_getElem? (i := 1399) (by decide +kernel), List.mem_of_getElem? (i := 1400) (by decide +kernel)⟩
theorem lw_p57 : lw_okq (⟨"ParkingRobotModel", "isWrong", "(I)Z"⟩, 27) := ⟨⟨by decide +kernel, by decide +kernel⟩, List.mem_of_getElem? (i := 1102) (by decide +kernel), List.mem_of_getElem? (i := 1423) (by decide +kernel), List.mem_of_getElem? (i := 1424) (by decide +kernel)⟩
theorem lw_p58 : lw_okq (⟨"ParkingRobotModel", "isAhead", "(II)Z"⟩, 27) := ⟨⟨by decide +kernel, by decide +kernel⟩, List.mem_of_getElem? (i := 1102) (by decide +kernel), List.mem_of_getElem? (i := 1427) (by decide +kernel), List.mem_of_getElem? (i := 1428) (by decide +kernel)⟩
theorem lw_p59 : lw_okq (⟨"ParkingRobotModel", "passes", "(I)I"⟩, 27) := ⟨⟨by decide +kernel, by decide +kernel⟩, List.mem_of_getElem? (i := 1102) (by decide +kernel), List.mem_of_getElem? (i := 1435) (by decide +kernel), List.mem_of_getElem? (i := 1436) (by decide +kernel)⟩
theorem lw_p60 : lw_okq (⟨"ParkingRobotModel", "command", "()I"⟩, 27) := ⟨⟨by decide +kernel, by decide +kernel⟩, List.mem_of_getElem? (i := 1102) (by decide +kernel), List.mem_of_getElem? (i := 1475) (by decide +kernel), List.mem_of_getElem? (i := 1476) (by decide +kernel)⟩
theorem lw_p61 : lw_okq (⟨"ParkingRobotModel", "sign", "()I"⟩, 27) := ⟨⟨by decide +kernel, by decide +kernel⟩, List.mem_of_getElem? (i := 1102) (by decide +kernel), List.mem_of_getElem? (i := 1479) (by decide +kernel), List.mem_of_getElem? (i := 1480) (by decide +kernel)⟩
theorem lw_p62 : lw_okq (⟨"ParkingRobotModel", "number", "(II)I"⟩, 27) := ⟨⟨by decide +kernel, by decide +kernel⟩, List.mem_of_getElem? (i := 1102) (by decide +kernel), List.mem_of_getElem? (i := 1483) (by decide +kernel), List.mem_of_getElem? (i := 1484) (by decide +kernel)⟩
theorem lw_p63 : lw_okq (⟨"ParkingRobotModel", "takes", "(I)V"⟩, 27) := ⟨⟨by decide +kernel, by decide +kernel⟩, List.mem_of_getElem? (i := 1102) (by decide +kernel), List.mem_of_getElem? (i := 1487) (by decide +kernel), List.mem_of_getElem? (i := 1488) (by decide +kernel)⟩
def lw_privs_4 : List (MethodName × Nat) := [(⟨"ParkingRobotModel", "open", "()I"⟩, 27), (⟨"ParkingRobotModel", "jobsOf", "(I)I"⟩, 27), (⟨"ParkingRobotModel", "closes", "(II)I"⟩, 27), (⟨"ParkingRobotModel", "isCounted", "(II)Z"⟩, 27), (⟨"ParkingRobotModel", "isSet", "(J)Z"⟩, 27), (⟨"ParkingRobotModel", "isFound", "()Z"⟩, 27), (⟨"ParkingRobotModel", "tries", "(I)V"⟩, 27), (⟨"ParkingRobotModel", "triesRow", "()V"⟩, 27), (⟨"ParkingRobotModel", "goes", "()Z"⟩, 27), (⟨"ParkingRobotModel", "isWrong", "(I)Z"⟩, 27), (⟨"ParkingRobotModel", "isAhead", "(II)Z"⟩, 27), (⟨"ParkingRobotModel", "passes", "(I)I"⟩, 27), (⟨"ParkingRobotModel", "command", "()I"⟩, 27), (⟨"ParkingRobotModel", "sign", "()I"⟩, 27), (⟨"ParkingRobotModel", "number", "(II)I"⟩, 27), (⟨"ParkingRobotModel", "takes", "(I)V"⟩, 27)]
theorem lw_r4 : ∀ q ∈ lw_privs_4, lw_okq q := List.forall_mem_cons.mpr ⟨lw_p48, List.forall_mem_cons.mpr ⟨lw_p49, List.forall_mem_cons.mpr ⟨lw_p50, List.forall_mem_cons.mpr ⟨lw_p51, List.forall_mem_cons.mpr ⟨lw_p52, List.forall_mem_cons.mpr ⟨lw_p53, List.forall_mem_cons.mpr ⟨lw_p54, List.forall_mem_cons.mpr ⟨lw_p55, List.forall_mem_cons.mpr ⟨lw_p56, List.forall_mem_cons.mpr ⟨lw_p57, List.forall_mem_cons.mpr ⟨lw_p58, List.forall_mem_cons.mpr ⟨lw_p59, List.forall_mem_cons.mpr ⟨lw_p60, List.forall_mem_cons.mpr ⟨lw_p61, List.forall_mem_cons.mpr ⟨lw_p62, List.forall_mem_cons.mpr ⟨lw_p63, fun _ h => absurd h List.not_mem_nil⟩⟩⟩⟩⟩⟩⟩⟩⟩⟩⟩⟩⟩⟩⟩⟩
theorem lw_p64 : lw_okq (⟨"ParkingRobotModel", "carriesOut", "(I)I"⟩, 27) := ⟨⟨by decide +kernel, by decide +kernel⟩, List.mem_of_getElem? (i := 1102) (by decide +kernel), List.mem_of_getElem? (i := 1491) (by decide +kernel), List.mem_of_getElem? (i := 1492) (by decide +kernel)⟩
theorem lw_p65 : lw_okq (⟨"ParkingRobotModel", "stored", "()I"⟩, 27) := ⟨⟨by decide +kernel, by decide +kernel⟩, List.mem_of_getElem? (i := 1102) (by decide +kernel), List.mem_of_getElem? (i := 1503) (by decide +kernel), List.mem_of_getElem? (i := 1504) (by decide +kernel)⟩
def lw_privs_5 : List (MethodName × Nat) := [(⟨"ParkingRobotModel", "carriesOut", "(I)I"⟩, 27), (⟨"ParkingRobotModel", "stored", "()I"⟩, 27)]
theorem lw_r5 : ∀ q ∈ lw_privs_5, lw_okq q := List.forall_mem_cons.mpr ⟨lw_p64, List.forall_mem_cons.mpr ⟨lw_p65, fun _ h => absurd h List.not_mem_nil⟩⟩
def lw_privs : List (MethodName × Nat) := lw_privs_1 ++ (lw_privs_2 ++ (lw_privs_3 ++ (lw_privs_4 ++ (lw_privs_5))))
def lw_tbl : List Cond := k2_sels lw_privs ++ tables_1
theorem lw_privs_ok : ∀ q ∈ lw_privs, lw_okq q := by
  show ∀ q ∈ lw_privs_1 ++ (lw_privs_2 ++ (lw_privs_3 ++ (lw_privs_4 ++ (lw_privs_5)))), lw_okq q
  exact List.forall_mem_append.mpr ⟨lw_r1, List.forall_mem_append.mpr ⟨lw_r2, List.forall_mem_append.mpr ⟨lw_r3, List.forall_mem_append.mpr ⟨lw_r4, lw_r5⟩⟩⟩⟩
/-- the streams that the claim lets the run draw from -/
abbrev lw_cs : List Choice := [Jvm.Choice.named "NaN.bits"]
theorem lw_bits : nanBits ∈ lw_cs := by first | decide | exact List.mem_cons_self | simp [lw_cs, nanBits]
/-! ===== BEGIN words of one list among another's, by their places ===== -/
theorem goodIn_r {big : List Cond} (ws : List Cond) (ps : List Nat) (hp : ws = ps.filterMap (fun i => big[i]?)) (h : ws.all goodWord = true) : GoodIn big ws := by
  intro w hw
  have h1 := List.all_eq_true.mp h w hw
  rw [hp] at hw
  obtain ⟨i, -, hi⟩ := List.mem_filterMap.mp hw
  have hm : w ∈ big := by first | exact List.mem_of_getElem? hi | exact List.getElem?_mem hi
  exact ⟨hm, good_of_word h1⟩
theorem goodIn_app {big a b : List Cond} (ha : GoodIn big a) (hb : GoodIn big b) : GoodIn big (a ++ b) := fun w h => (List.mem_append.mp h).elim (ha w) (hb w)
theorem goodIn_ca {big a b : List Cond} {c : Cond} (ha : GoodIn big (c :: a)) (hb : GoodIn big b) : GoodIn big (c :: (a ++ b)) := fun w h => (List.mem_cons.mp h).elim (fun e => ha w (List.mem_cons.mpr (Or.inl e))) (fun h => (List.mem_append.mp h).elim (fun h => ha w (List.mem_cons.mpr (Or.inr h))) (hb w))
theorem goodIn_sub {big ws : List Cond} (hm : ∀ w ∈ ws, w ∈ big) (h : ws.all goodWord = true) : GoodIn big ws := fun w hw => ⟨hm w hw, good_of_word (List.all_eq_true.mp h w hw)⟩
/-! ===== END ===== -/

/-! ===== BEGIN exceptions that leave a method, and their catching by the caller (launches without stack traces) ===== -/
section VXA
/-! The laws vx_back, vx_callV, vx_callS, vx_callSW, vx_throw0, vx_throwS follow proofs of the library, with one case more: JvmDerived/Free/Laws.lean (Back.of_free), Shelf42/LK1.lean (callV, callS), Shelf/KitTraced.lean (throwNew0V, throwNewS). -/
/-- where a method has thrown q: the class by its name, the cell, what was written, the world -/
def vx_T (XC : String → State → State → Prop) (st : State) (q : Addr) (t : State) (mc ms : Nat) (free : Addr → Prop) : Prop :=
  ∃ (E : String) (ce : Cell) (L : List Loc), XC E st t ∧ t.heap[q]? = some ce ∧ ce.vm = .none ∧ st.vm.findClass E = some ce.cls ∧ st.WarmedH t.vm ∧ st.sameButNew ({ t with vm := st.vm } : State) L mc ms ∧ ∀ z ∈ L, free z.base
def vx_Q (Qc : Array Value → State → Outcome → State → Prop) (XC : String → State → State → Prop) (mc ms : Nat) (free : Addr → Prop) : Array Value → State → Outcome → State → Prop := fun a st o t =>
  (Qc a st o t ∧ ∃ L, FrameEnd st o t L mc ms ∧ ∀ q ∈ L, free q.base) ∨ ∃ q, o = .threw q ∧ vx_T XC st q t mc ms free
/-- a callee that returns or throws -/
def vx_Met (l : Launch) (y : MethodName) (ws : List Cond) (rm : Room) (Pc : Array Value → State → Prop) (Qc : Array Value → State → Outcome → State → Prop) (XC : String → State → State → Prop) (mc ms : Nat) (free : Addr → Prop) : Prop :=
  MetFree l y (headSpec ws rm) Pc (fun _ _ _ _ _ => True) (vx_Q Qc XC mc ms free)
def vx_Post (XC : String → State → State → Prop) (mc ms : Nat) (free : Addr → Prop) : Pt → Array Value → Addr → Pt → Prop := fun A a q B =>
  ∃ (g : JFrame) (mk : MethodId) (t : State) (L : List Loc) (E : String) (ce : Cell), B.U.heap = t.heap ∧ B.U.vm = t.vm ∧ XC E (A.U.calling g mk a) t ∧ t.heap[q]? = some ce ∧ ce.vm = .none ∧ A.U.vm.findClass E = some ce.cls ∧ B.locs = A.locs ++ L ∧ (∀ z ∈ L, free z.base) ∧ B.cells = A.cells + mc ∧ B.slots = A.slots + ms
def vx_Back (l : Launch) (R : Room) (p : Program) (e : Env) (below : List Frame) (s : State) (sargs : Array Value) (y : MethodName) (len W9 : Nat)
    (Pre : Pt → Array Value → Prop) (Post : Pt → Array Value → Option Value → Pt → Prop) (PostX : Pt → Array Value → Addr → Pt → Prop) : Prop :=
  ∀ (m : MethodId) (meth : Method) (c : Code) (A : Pt) (g : JFrame) (ig : Instr) (mk : MethodId) (a : Array Value),
    Stand p l e R s m sargs below meth c A.U A.locs A.cells A.slots → g.method = m → g.locals.size = c.maxLocals → decode c.code g.pc = .ok (ig, len) →
    2 * g.monitorRoom + (g.stack.map fun v => v.category).sum ≤ W9 → A.U.methodNamed? y = some mk → Pre A a →
    (∃ (v : Option Value) (B : Pt), Stand p l e R s m sargs below meth c B.U B.locs B.cells B.slots ∧ Post A a v B ∧
      Steps p.tables e below (doInvoke e (A.U.setTop g) [] mk a).1 (B.U.setTop { g with pc := g.pc + len, stack := v.toList ++ g.stack })) ∨
    (∃ (q : Addr) (B : Pt), Stand p l e R s m sargs below meth c B.U B.locs B.cells B.slots ∧ PostX A a q B ∧
      Steps p.tables e below (doInvoke e (A.U.setTop g) [] mk a).1 ((B.U.setTop g).pushFrame (.throwing q)))
section Payer
variable {l : Launch} {R : Room} {p : Program} {e : Env} {below : List Frame} {s : State} {sargs : Array Value} {y : MethodName} {len W9 : Nat}
theorem vx_back {ws : List Cond} {rm : Room} {Pc : Array Value → State → Prop} {Qc : Array Value → State → Outcome → State → Prop} {XC : String → State → State → Prop} {mc ms : Nat} {free : Addr → Prop} {bytes : ByteArray} {maxL : Nat} {ret : Option FieldType}
    (hM : vx_Met l y ws rm Pc Qc XC mc ms free) (hblind : FrameBlind Pc) (hrc : rm.cells = mc) (hrs : rm.slots = ms)
    (hframes : rm.frames + 1 ≤ R.frames) (hlocals : W9 + (maxL + 11) + rm.locals ≤ R.locals)
    (hws : ∀ w ∈ ws, ∀ a' U, s.WarmedH U.vm → w.before a' U = true) (hcode : Cond.code y bytes maxL ret ∈ ws) (hinit : ∀ a' U, s.WarmedH U.vm → (Cond.initialized y.cls).before a' U = true) :
    vx_Back l R p e below s sargs y len W9 (PreOf R mc ms Pc) (PostOf Qc mc ms free) (vx_Post XC mc ms free) := by
  intro m meth c A g ig mk a X hg hsize hdg hW hn hp
  have h1 : (headSpec ws rm).pre.before a A.U = true := atoms_intro fun w hw => hws w hw _ _ X.warmed
  have h2 : (Cond.code y bytes maxL ret).before a A.U = true := hws _ hcode _ _ X.warmed
  have h3 : (Cond.initialized y.cls).before a A.U = true := hinit _ _ X.warmed
  have h4 : A.cells + (headSpec ws rm).room.cells ≤ R.cells := by rw [show (headSpec ws rm).room.cells = mc from hrc]; exact hp.1
  have h5 : A.slots + (headSpec ws rm).room.slots ≤ R.slots := by rw [show (headSpec ws rm).room.slots = ms from hrs]; exact hp.2.1
  have hPc : Pc a (A.U.calling g mk a) := hblind _ _ _ _ hp.2.2
  obtain ⟨U, Ls, c0, s0⟩ := A
  dsimp only [Pt.U, Pt.locs, Pt.cells, Pt.slots] at h1 h2 h3 h4 h5 X hn hPc ⊢
  obtain ⟨methY, cY, hmY, hcY, -, hlY, -, -, -, -⟩ := Cond.code_spec hn h2
  obtain ⟨kY, hkY, -⟩ := className_of_methodNamed hn
  have hinitY : kY.init = .initialized := Cond.initialized_spec (findClass_of_methodNamed hn) hkY h3
  have h : At U g.method c below := by rw [hg]; exact X.here
  have hlocals9 : W9 + (maxL + 11) + (headSpec ws rm).room.locals ≤ R.locals := hlocals
  have happ : (headSpec ws rm).appliesLoose y e.platform (U.calling g mk a) = true :=
    Spec.appliesLoose_calling (g := g) h hdg hn hkY hinitY
      (X.room_calling (g := g) (R' := (headSpec ws rm).room) hsize hmY hcY hframes (by rw [hlY]; omega) h4 h5) h1
  obtain ⟨mid, hmid⟩ := h.above
  have hfr : (U.setTop g).frames = (.java g :: mid) ++ below := by rw [State.frames_setTop' g h.top, hmid]; rfl
  obtain ⟨o, s₂, hsteps, -, hend, hq⟩ := Steps.callFree hM p X.admits X.cas X.clock (acts := []) hfr happ hPc trivial
  have hq' : vx_Q Qc XC mc ms free a (U.calling g mk a) o s₂ := hq
  rw [State.frames_setTop' g h.top] at hend
  obtain ⟨g₀, hg0⟩ := Option.isSome_iff_exists.mp h.top
  obtain ⟨r, hr⟩ := State.topJava?_eq_some.mp hg0
  have hr' : (({ U with heap := s₂.heap, slotsUsed := s₂.slotsUsed } : State).setVm s₂.vm).frames = .java g₀ :: r := hr
  rcases hq' with ⟨hqc, L, hfe, hL⟩ | ⟨q, rfl, E, ce, L, hx, hce, hcv, hcl, hW₂, hsm, hL⟩
  · obtain ⟨⟨v, rfl⟩, hW₂, e2, q2, q3, q4, q5, q6⟩ := id hfe
    have e3 : s₂ = ({ (U.calling g mk a).setFrames s₂.frames with heap := s₂.heap, slotsUsed := s₂.slotsUsed } : State).setVm s₂.vm := by
      have : s₂ = ({ s₂ with vm := (U.calling g mk a).vm } : State).setVm s₂.vm := rfl
      rw [e2] at this
      exact this
    obtain ⟨c₂, i₂, len₂, hc₂, hd₂, hf₂⟩ := hend
    have hW' : U.WarmedH s₂.vm := hW₂
    have hcc : c₂ = c := by
      have h1 : s₂.code? g.method = U.code? g.method := by
        rw [State.code?_eq, State.code?_eq, hW'.alike.method?]
      exact Option.some.inj (hc₂.symm.trans (h1.trans h.code))
    subst hcc
    have hlen : len₂ = len := by rw [hdg] at hd₂; cases hd₂; rfl
    subst hlen
    have hs₂ : s₂ = (({ U with heap := s₂.heap, slotsUsed := s₂.slotsUsed } : State).setVm s₂.vm).setTop { g with pc := g.pc + len₂, stack := v.toList ++ g.stack } := by
      refine e3.trans ?_
      rw [hf₂, State.calling_eq h.top, State.setFrames_setFrames, State.setTop_of_frames _ hr', hr]
      rfl
    have hsame : U.sameButNew ({ U with heap := s₂.heap, slotsUsed := s₂.slotsUsed } : State) L mc ms := by
      refine ⟨?_, q2, q3, q4, q5, q6⟩
      obtain ⟨t, ht, -⟩ := State.frames_cons hr
      show ({ U with heap := s₂.heap, slotsUsed := s₂.slotsUsed } : State) = { U.setFrames U.frames with heap := s₂.heap, slotsUsed := s₂.slotsUsed }
      rw [State.setFrames_self ht]
    subst hg
    refine Or.inl ⟨v, ⟨(({ U with heap := s₂.heap, slotsUsed := s₂.slotsUsed } : State).setVm s₂.vm), Ls ++ L, c0 + mc, s0 + ms⟩,
      ⟨X.admits, X.cas, X.clock, X.frames, X.room, X.hears, X.method, X.code, (X.here.setHeapUsed s₂.heap s₂.slotsUsed).setVm hW'.alike, X.tail, State.WarmedH.trans X.warmed hW', X.limits, X.bytes, X.same.trans (hsame.setVm s.vm)⟩,
      ⟨g, mk, s₂, L, rfl, rfl, hqc, rfl, hL, rfl, rfl⟩, ?_⟩
    show Steps p.tables e below _ ((({ U with heap := s₂.heap, slotsUsed := s₂.slotsUsed } : State).setVm s₂.vm).setTop { g with pc := g.pc + len₂, stack := v.toList ++ g.stack })
    rw [← hs₂]
    exact hsteps
  · obtain ⟨e2, q2, q3, q4, q5, q6⟩ := id hsm
    have e3 : s₂ = ({ (U.calling g mk a).setFrames s₂.frames with heap := s₂.heap, slotsUsed := s₂.slotsUsed } : State).setVm s₂.vm := by
      have : s₂ = ({ s₂ with vm := (U.calling g mk a).vm } : State).setVm s₂.vm := rfl
      rw [e2] at this
      exact this
    have hf₂ : s₂.frames = .throwing q :: .java g :: U.frames.tail := hend
    have hW' : U.WarmedH s₂.vm := hW₂
    have hs₂ : s₂ = ((({ U with heap := s₂.heap, slotsUsed := s₂.slotsUsed } : State).setVm s₂.vm).setTop g).pushFrame (.throwing q) := by
      refine e3.trans ?_
      rw [hf₂, State.calling_eq h.top, State.setFrames_setFrames, State.pushFrame, State.frames_setTop _ hr', State.setTop_of_frames _ hr', State.setFrames_setFrames, hr]
      rfl
    have hsame : U.sameButNew ({ U with heap := s₂.heap, slotsUsed := s₂.slotsUsed } : State) L mc ms := by
      refine ⟨?_, q2, q3, q4, q5, q6⟩
      obtain ⟨t, ht, -⟩ := State.frames_cons hr
      show ({ U with heap := s₂.heap, slotsUsed := s₂.slotsUsed } : State) = { U.setFrames U.frames with heap := s₂.heap, slotsUsed := s₂.slotsUsed }
      rw [State.setFrames_self ht]
    subst hg
    refine Or.inr ⟨q, ⟨(({ U with heap := s₂.heap, slotsUsed := s₂.slotsUsed } : State).setVm s₂.vm), Ls ++ L, c0 + mc, s0 + ms⟩,
      ⟨X.admits, X.cas, X.clock, X.frames, X.room, X.hears, X.method, X.code, (X.here.setHeapUsed s₂.heap s₂.slotsUsed).setVm hW'.alike, X.tail, State.WarmedH.trans X.warmed hW', X.limits, X.bytes, X.same.trans (hsame.setVm s.vm)⟩,
      ⟨g, mk, s₂, L, E, ce, rfl, rfl, hx, hce, hcv, hcl, rfl, hL, rfl, rfl⟩, ?_⟩
    show Steps p.tables e below _ (((({ U with heap := s₂.heap, slotsUsed := s₂.slotsUsed } : State).setVm s₂.vm).setTop g).pushFrame (.throwing q))
    rw [← hs₂]
    exact hsteps
end Payer
section Calls
variable {p : Program} {l : Launch} {e : Env} {R : Room} {s : State} {m : MethodId} {args : Array Value} {below : List Frame} {meth : Method} {c : Code} {T : State} {locs : List Loc} {cells slots : Nat}
theorem vx_callV (X : Stand p l e R s m args below meth c T locs cells slots) (hexec : p.tables.exec = Jvm.exec) {own C : String} {index : Nat} {y : MethodName} {bytes : ByteArray} {maxL : Nat} {ret : Option FieldType}
    (hown : s.vm.findClass own = some m.cls) (hlink : (Cond.methodLink own index y).before args s = true) (hinst : (Cond.instanceMethod y).before args s = true) (hsel : (Cond.selects C y y).before args s = true)
    (hcode : (Cond.code y bytes maxL ret).before args s = true) (hy : y.cls ≠ "java/lang/invoke/MethodHandle" ∧ y.cls ≠ "java/lang/invoke/VarHandle")
    {W9 : Nat} {Pre : Pt → Array Value → Prop} {Post : Pt → Array Value → Option Value → Pt → Prop} {PostX : Pt → Array Value → Addr → Pt → Prop} (hK : vx_Back l R p e below s args y 3 W9 Pre Post PostX)
    {b : Addr} {cellB : Cell} (hcell : T.heap[b]? = some cellB) (hobj : cellB.vm.isStatics = false) (hcls : s.vm.findClass C = some cellB.cls)
    {g : JFrame} (hg : g.method = m) (hsize : g.locals.size = c.maxLocals) {argsL rest : List Value} (hlen : ∀ sig, parseMethodDescriptor y.desc = some sig → argsL.length = sig.parameters.length)
    (hstack : g.stack = argsL.reverse ++ .ref b :: rest) (hW : 2 * g.monitorRoom + (rest.map fun v => v.category).sum ≤ W9) (hdg : decode c.code g.pc = .ok (.invokevirtual index, 3))
    (hpre : ∀ vm₁, s.WarmedH vm₁ → Pre ⟨T.setVm vm₁, locs, cells, slots⟩ (Value.ref b :: argsL).toArray) :
    (∃ (v : Option Value) (vm₁ : Vm) (B : Pt), s.WarmedH vm₁ ∧ Stand p l e R s m args below meth c B.U B.locs B.cells B.slots ∧ Post ⟨T.setVm vm₁, locs, cells, slots⟩ (Value.ref b :: argsL).toArray v B ∧
      ∀ target, Steps p.tables e below (B.U.setTop { g with pc := g.pc + 3, stack := v.toList ++ rest }) target → Steps p.tables e below (T.setTop g) target) ∨
    (∃ (q : Addr) (vm₁ : Vm) (B : Pt), s.WarmedH vm₁ ∧ Stand p l e R s m args below meth c B.U B.locs B.cells B.slots ∧ PostX ⟨T.setVm vm₁, locs, cells, slots⟩ (Value.ref b :: argsL).toArray q B ∧
      Steps p.tables e below (T.setTop g) ((B.U.setTop { g with stack := rest }).pushFrame (.throwing q))) := by
  obtain ⟨mk, methM, hnamed, hmethM, hstM, habM⟩ := Cond.instanceMethod_spec hinst
  obtain ⟨methM', cM, hmethM', -, -, -, -, -, -, hsigM⟩ := Cond.code_spec hnamed hcode
  cases hmethM.symm.trans hmethM'
  obtain ⟨c2, r2, m2, q1, q2, q3, q4, kP, hkP, hkPi⟩ := Cond.selects_spec hsel
  cases hcls.symm.trans q1
  cases (State.methodFound?_of_named hnamed hy).symm.trans q2
  cases hnamed.symm.trans q3
  have hselP : selectMethod e.platform s.vm cellB.cls mk = .method mk := by rw [Launch.admits_selectMethod X.admits]; exact q4
  obtain ⟨vm₁, X₁, hstep₁⟩ := X.invokevirtual hexec hown hlink hnamed hmethM hstM hkP hkPi hy (a := b) (cell := cellB) hcell
    (fun z h => by rw [h] at hobj; cases hobj) hselP hmethM habM hkP hkPi (g := g) hg (argsL := argsL) (rest := rest) (hlen _ hsigM) hstack hdg
  rcases hK m meth c ⟨T.setVm vm₁, locs, cells, slots⟩ { g with stack := rest } (.invokevirtual index) mk (Value.ref b :: argsL).toArray X₁ hg hsize hdg hW (X₁.named hnamed) (hpre vm₁ X₁.warmed) with ⟨v, B, X', hpost, hsteps⟩ | ⟨q, B, X', hpost, hsteps⟩
  · exact Or.inl ⟨v, vm₁, B, X₁.warmed, X', hpost, fun target h => hstep₁ _ fun acts => by rw [doInvoke_state]; exact hsteps.trans h⟩
  · exact Or.inr ⟨q, vm₁, B, X₁.warmed, X', hpost, hstep₁ _ fun acts => by rw [doInvoke_state]; exact hsteps⟩
theorem vx_callS (X : Stand p l e R s m args below meth c T locs cells slots) (hexec : p.tables.exec = Jvm.exec) {own : String} {index : Nat} {y : MethodName} {bytes : ByteArray} {maxL : Nat} {ret : Option FieldType}
    (hown : s.vm.findClass own = some m.cls) (hlink : (Cond.methodLink own index y).before args s = true) (hstat : (Cond.static y).before args s = true) (hinit : (Cond.initialized y.cls).before args s = true)
    (hcode : (Cond.code y bytes maxL ret).before args s = true) (hy : y.cls ≠ "java/lang/invoke/MethodHandle" ∧ y.cls ≠ "java/lang/invoke/VarHandle")
    {W9 : Nat} {Pre : Pt → Array Value → Prop} {Post : Pt → Array Value → Option Value → Pt → Prop} {PostX : Pt → Array Value → Addr → Pt → Prop} (hK : vx_Back l R p e below s args y 3 W9 Pre Post PostX)
    {g : JFrame} (hg : g.method = m) (hsize : g.locals.size = c.maxLocals) {argsL rest : List Value} (hlen : ∀ sig, parseMethodDescriptor y.desc = some sig → argsL.length = sig.parameters.length)
    (hstack : g.stack = argsL.reverse ++ rest) (hW : 2 * g.monitorRoom + (rest.map fun v => v.category).sum ≤ W9) (hdg : decode c.code g.pc = .ok (.invokestatic index, 3))
    (hpre : ∀ vm₁, s.WarmedH vm₁ → Pre ⟨T.setVm vm₁, locs, cells, slots⟩ argsL.toArray) :
    (∃ (v : Option Value) (vm₁ : Vm) (B : Pt), s.WarmedH vm₁ ∧ Stand p l e R s m args below meth c B.U B.locs B.cells B.slots ∧ Post ⟨T.setVm vm₁, locs, cells, slots⟩ argsL.toArray v B ∧
      ∀ target, Steps p.tables e below (B.U.setTop { g with pc := g.pc + 3, stack := v.toList ++ rest }) target → Steps p.tables e below (T.setTop g) target) ∨
    (∃ (q : Addr) (vm₁ : Vm) (B : Pt), s.WarmedH vm₁ ∧ Stand p l e R s m args below meth c B.U B.locs B.cells B.slots ∧ PostX ⟨T.setVm vm₁, locs, cells, slots⟩ argsL.toArray q B ∧
      Steps p.tables e below (T.setTop g) ((B.U.setTop { g with stack := rest }).pushFrame (.throwing q))) := by
  obtain ⟨mk, hnamed⟩ := Cond.code_named hcode
  obtain ⟨methM, cM, hmethM, -, -, -, -, -, -, hsigM⟩ := Cond.code_spec hnamed hcode
  have hstatic : methM.isStatic = true := Cond.static_spec hnamed hmethM hstat
  obtain ⟨kP, hkP, -⟩ := className_of_methodNamed hnamed
  have hinitP : kP.init = .initialized := Cond.initialized_spec (findClass_of_methodNamed hnamed) hkP hinit
  obtain ⟨vm₁, X₁, hstep₁⟩ := X.invokestatic hexec hown hlink hnamed hmethM hstatic hkP hinitP hy (g := g) hg (argsL := argsL) (rest := rest) (hlen _ hsigM) hstack hdg
  rcases hK m meth c ⟨T.setVm vm₁, locs, cells, slots⟩ { g with stack := rest } (.invokestatic index) mk argsL.toArray X₁ hg hsize hdg hW (X₁.named hnamed) (hpre vm₁ X₁.warmed) with ⟨v, B, X', hpost, hsteps⟩ | ⟨q, B, X', hpost, hsteps⟩
  · exact Or.inl ⟨v, vm₁, B, X₁.warmed, X', hpost, fun target h => hstep₁ _ fun acts => by rw [doInvoke_state]; exact hsteps.trans h⟩
  · exact Or.inr ⟨q, vm₁, B, X₁.warmed, X', hpost, hstep₁ _ fun acts => by rw [doInvoke_state]; exact hsteps⟩
end Calls
theorem vx_cls {s : State} {T : State} {vm₁ : Vm} {E : String} {k : ClassId} (hW : s.WarmedH vm₁) (h : (T.setVm vm₁).vm.findClass E = some k) : s.vm.findClass E = some k := by
  have h1 : vm₁.findClass E = some k := h
  rw [hW.alike.findClass] at h1
  exact h1
/-- the method's frame g, with q thrown over it -/
def vx_W (p : Program) (l : Launch) (e : Env) (R : Room) (s : State) (m : MethodId) (args : Array Value) (below : List Frame) (meth : Method) (c : Code) (H : Heap) (locs : List Loc) (cells slots : Nat) (Q : State → Prop) (g : JFrame) (q : Addr) : Prop :=
  ∀ T : State, T.heap = H → Stand p l e R s m args below meth c T locs cells slots → ∃ t, Steps p.tables e below ((T.setTop g).pushFrame (.throwing q)) t ∧ Q t
def vx_Run (p : Program) (l : Launch) (e : Env) (R : Room) (s : State) (m : MethodId) (args : Array Value) (below : List Frame) (meth : Method) (c : Code) (H : Heap) (locs : List Loc) (cells slots mc ms : Nat) (g : JFrame) (rest : List Value) (Qa : State → Outcome → State → Prop) (XC : String → State → State → Prop) (free : Addr → Prop) : Prop :=
  ∀ T : State, T.heap = H → Stand p l e R s m args below meth c T locs cells slots →
    (∃ (v : Option Value) (st₀ t T' : State) (L : List Loc), st₀.heap = H ∧ Stand p l e R s m args below meth c T' (locs ++ L) (cells + mc) (slots + ms) ∧ (∀ q ∈ L, free q.base) ∧ T'.heap = t.heap ∧ T'.vm = t.vm ∧ Qa st₀ (.returned v) t ∧
      Goes p e below T g T' { g with pc := g.pc + 3, stack := v.toList ++ rest }) ∨
    (∃ (q : Addr) (st₀ t T' : State) (L : List Loc) (E : String) (ce : Cell), st₀.heap = H ∧ Stand p l e R s m args below meth c T' (locs ++ L) (cells + mc) (slots + ms) ∧ (∀ z ∈ L, free z.base) ∧ T'.heap = t.heap ∧ T'.vm = t.vm ∧ XC E st₀ t ∧ t.heap[q]? = some ce ∧ ce.vm = .none ∧ s.vm.findClass E = some ce.cls ∧
      Steps p.tables e below (T.setTop g) ((T'.setTop { g with stack := rest }).pushFrame (.throwing q)))
def vx_X {S : Type} (px : S → Prop) (B : String → S → State → Prop) (A : Nat → Prop) : String → State → State → Prop := fun E st t => ∃ u : S, px u ∧ B E u t ∧ va_F A st t
section Runs
variable {p : Program} {l : Launch} {e : Env} {R : Room} {s : State} {m : MethodId} {args : Array Value} {below : List Frame} {meth : Method} {c : Code} {H : Heap} {locs : List Loc} {cells slots : Nat}
variable {y : MethodName} {bytes cc : ByteArray} {maxL nL mc ms n index : Nat} {ret : Option FieldType} {ws : List Cond} {rm : Room} {Pc : Array Value → State → Prop} {Qc : Array Value → State → Outcome → State → Prop} {XC : String → State → State → Prop} {free : Addr → Prop} {Ts : List Cond} {own C : String} {b : Addr} {As rest : List Value} {g : JFrame}
theorem vx_callBack (cb : CallB R s args own index y bytes maxL ret ws rm mc ms n) (hM : vx_Met l y ws rm Pc Qc XC mc ms free) (hbl : FrameBlind Pc) : vx_Back l R p e below s args y 3 8 (PreOf R mc ms Pc) (PostOf Qc mc ms free) (vx_Post XC mc ms free) := by
  obtain ⟨hrc, hrs, hfr, hlo, hws, hcw, -, hini, -⟩ := cb
  exact vx_back (bytes := bytes) (maxL := maxL) (ret := ret) hM hbl hrc hrs hfr hlo hws hcw (fun a' U hW => word_at hW (Or.inl (by first | rfl | simp [Cond.onTables, Cond.keeps, Cond.steady])) hini)
theorem vx_runV (S : CallFix p m c cc nL s args Ts own) (hM : vx_Met l y ws rm Pc Qc XC mc ms free) (cw : CallW R s args own C index y bytes maxL ret ws rm mc ms n) (hp : PreV s H C b Pc As)
    (hg : g.method = m) (hn : As.length = n) (hsize : g.locals.size = nL) (hstack : g.stack = As.reverse ++ .ref b :: rest) (hW : 2 * g.monitorRoom + (rest.map fun v => v.category).sum ≤ 8) (hdg : decode cc g.pc = .ok (.invokevirtual index, 3)) (hf : cells + mc ≤ R.cells ∧ slots + ms ≤ R.slots) :
    vx_Run p l e R s m args below meth c H locs cells slots mc ms g rest (Qc (Value.ref b :: As).toArray) XC free := by
  have hK : vx_Back l R p e below s args y 3 8 (PreOf R mc ms Pc) (PostOf Qc mc ms free) (vx_Post XC mc ms free) := vx_callBack cw.1 hM hp.1
  obtain ⟨⟨-, -, -, -, -, -, hcode, -, hy, hlen, hl⟩, hin, hse⟩ := cw
  obtain ⟨hx, hb, hml, ho, -⟩ := S
  obtain ⟨-, ⟨cellB, hcB, hoB, hclB⟩, hPc⟩ := hp
  intro T hT X
  rcases vx_callV X hx (C := C) (bytes := bytes) (maxL := maxL) (ret := ret) ho hl hin hse hcode hy hK (by rw [hT]; exact hcB) hoB hclB hg (hsize.trans hml.symm) (argsL := As) (rest := rest) (fun sig h => hn.trans (hlen sig h)) hstack hW (by rw [hb]; exact hdg)
    (fun vm₁ hW₁ => ⟨hf.1, hf.2, hPc (T.setVm vm₁) hT hW₁⟩) with ⟨v, vm₁, ⟨U', l2, c2, s2⟩, hW₁, X', ⟨g', mk, t, L, e1, e2, hq, h1, hL, h2, h3⟩, st⟩ | ⟨q, vm₁, ⟨U', l2, c2, s2⟩, hW₁, X', ⟨g', mk, t, L, E, ce, e1, e2, hq, hce, hcv, hcl, h1, hL, h2, h3⟩, st⟩
  · dsimp only [Pt.U, Pt.locs, Pt.cells, Pt.slots] at X' e1 e2 h1 h2 h3 st
    subst h1; subst h2; subst h3
    exact Or.inl ⟨v, (T.setVm vm₁).calling g' mk (Value.ref b :: As).toArray, t, U', L, hT, X', hL, e1, e2, hq, st⟩
  · dsimp only [Pt.U, Pt.locs, Pt.cells, Pt.slots] at X' e1 e2 h1 h2 h3 st hcl
    subst h1; subst h2; subst h3
    exact Or.inr ⟨q, (T.setVm vm₁).calling g' mk (Value.ref b :: As).toArray, t, U', L, E, ce, hT, X', hL, e1, e2, hq, hce, hcv, vx_cls hW₁ hcl, st⟩
theorem vx_runS (S : CallFix p m c cc nL s args Ts own) (hM : vx_Met l y ws rm Pc Qc XC mc ms free) (cw : CallB R s args own index y bytes maxL ret ws rm mc ms n ∧ (Cond.static y).before args s = true) (hp : PreS s H Pc As)
    (hg : g.method = m) (hn : As.length = n) (hsize : g.locals.size = nL) (hstack : g.stack = As.reverse ++ rest) (hW : 2 * g.monitorRoom + (rest.map fun v => v.category).sum ≤ 8) (hdg : decode cc g.pc = .ok (.invokestatic index, 3)) (hf : cells + mc ≤ R.cells ∧ slots + ms ≤ R.slots) :
    vx_Run p l e R s m args below meth c H locs cells slots mc ms g rest (Qc As.toArray) XC free := by
  have hK : vx_Back l R p e below s args y 3 8 (PreOf R mc ms Pc) (PostOf Qc mc ms free) (vx_Post XC mc ms free) := vx_callBack cw.1 hM hp.1
  obtain ⟨⟨-, -, -, -, -, -, hcode, hini, hy, hlen, hl⟩, hstt⟩ := cw
  obtain ⟨hx, hb, hml, ho, -⟩ := S
  intro T hT X
  rcases vx_callS X hx (bytes := bytes) (maxL := maxL) (ret := ret) ho hl hstt hini hcode hy hK hg (hsize.trans hml.symm) (argsL := As) (rest := rest) (fun sig h => hn.trans (hlen sig h)) hstack hW (by rw [hb]; exact hdg)
    (fun vm₁ hW₁ => ⟨hf.1, hf.2, hp.2 (T.setVm vm₁) hT hW₁⟩) with ⟨v, vm₁, ⟨U', l2, c2, s2⟩, hW₁, X', ⟨g', mk, t, L, e1, e2, hq, h1, hL, h2, h3⟩, st⟩ | ⟨q, vm₁, ⟨U', l2, c2, s2⟩, hW₁, X', ⟨g', mk, t, L, E, ce, e1, e2, hq, hce, hcv, hcl, h1, hL, h2, h3⟩, st⟩
  · dsimp only [Pt.U, Pt.locs, Pt.cells, Pt.slots] at X' e1 e2 h1 h2 h3 st
    subst h1; subst h2; subst h3
    exact Or.inl ⟨v, (T.setVm vm₁).calling g' mk As.toArray, t, U', L, hT, X', hL, e1, e2, hq, st⟩
  · dsimp only [Pt.U, Pt.locs, Pt.cells, Pt.slots] at X' e1 e2 h1 h2 h3 st hcl
    subst h1; subst h2; subst h3
    exact Or.inr ⟨q, (T.setVm vm₁).calling g' mk As.toArray, t, U', L, E, ce, hT, X', hL, e1, e2, hq, hce, hcv, vx_cls hW₁ hcl, st⟩
end Runs
section Rows
variable {p : Program} {l : Launch} {e : Env} {R : Room} {s : State} {m : MethodId} {args : Array Value} {below : List Frame} {meth : Method} {c : Code} {H : Heap} {locs : List Loc} {cells slots : Nat} {Q : State → Prop}
variable {mc ms : Nat} {free : Addr → Prop} {A0 A1 : Nat → Prop} {H0 : Heap} {a : Array Value} {pc : Nat} {ls : Array Slot} {st0 rest : List Value}
theorem vx_keep {st₀ t T' : State} {L : List Loc} (h0 : st₀.heap = H) (e1 : T'.heap = t.heap) (hS : va_S A0 H0 H locs) (hA : ∀ q, q < H.size → A1 q → A0 q) (hf : ∀ q, free q → A0 q) (hL : ∀ q ∈ L, free q.base) (hF : va_F A1 st₀ t) :
    H.size ≤ T'.heap.size ∧ (∀ q : Nat, q < H.size → ¬ A1 q → T'.heap[q]? = H[q]?) ∧ va_S A0 H0 T'.heap (locs ++ L) := by
  obtain ⟨hz, hk⟩ := hF
  rw [h0] at hz hk
  exact ⟨by rw [e1]; exact hz, fun q h1 h2 => by rw [e1]; exact hk q h1 h2,
    ⟨Nat.le_trans hS.1 (by rw [e1]; exact hz), fun q h1 h2 => by rw [e1, hk q (Nat.lt_of_lt_of_le h1 hS.1) (fun z => h2 (hA q (Nat.lt_of_lt_of_le h1 hS.1) z))]; exact hS.2.1 q h1 h2, fun q hq => by
      rcases List.mem_append.mp hq with h | h
      · exact hS.2.2 q h
      · exact hf _ (hL q h)⟩⟩
theorem vx_calli {S SX : Type} {post : Int32 → S → Prop} {px : SX → Prop} {B : S → State → Prop} {BX : String → SX → State → Prop} {AX : Nat → Prop} (hr : vx_Run p l e R s m args below meth c H locs cells slots mc ms (F0 m pc ls st0) rest (va_Qi post B A1 a) (vx_X px BX AX) free) (hS : va_S A0 H0 H locs) (hA : ∀ q, q < H.size → A1 q → A0 q) (hf : ∀ q, free q → A0 q) (hAX : ∀ q, q < H.size → AX q → A0 q)
    (kx : ∀ (E : String) (ce : Cell) (q9 : Addr) (u : SX) (t : State) (H1 : Heap) (locs1 : List Loc), t.heap = H1 → s.vm.Alike t.vm → px u → BX E u t → H.size ≤ H1.size → (∀ q : Nat, q < H.size → ¬ AX q → H1[q]? = H[q]?) → va_S A0 H0 H1 locs1 → H1[q9]? = some ce → ce.vm = .none → s.vm.findClass E = some ce.cls → vx_W p l e R s m args below meth c H1 locs1 (cells + mc) (slots + ms) Q (F0 m pc ls rest) q9)
    (kk : ∀ (r : Int32) (u : S) (t : State) (H1 : Heap) (locs1 : List Loc), t.heap = H1 → s.vm.Alike t.vm → post r u → B u t → H.size ≤ H1.size → (∀ q : Nat, q < H.size → ¬ A1 q → H1[q]? = H[q]?) → va_S A0 H0 H1 locs1 → W p l e R s m args below meth c H1 locs1 (cells + mc) (slots + ms) Q (F0 m (pc + 3) ls (.int r :: rest))) : W p l e R s m args below meth c H locs cells slots Q (F0 m pc ls st0) := by
  intro T hT X
  rcases hr T hT X with ⟨v, st₀, t, T', L, h0, X', hL, e1, e2, ⟨⟨r, u, hv, hp, hb⟩, hF⟩, st⟩ | ⟨q, st₀, t, T', L, E, ce, h0, X', hL, e1, e2, ⟨u, hp, hb, hF⟩, hce, hcv, hcl, st⟩
  · cases hv
    obtain ⟨k1, k2, k3⟩ := vx_keep h0 e1 hS hA hf hL hF
    obtain ⟨t2, a1, b1⟩ := kk r u t T'.heap (locs ++ L) e1.symm (by rw [← e2]; exact X'.warmed.alike) hp hb k1 k2 k3 T' rfl X'
    exact ⟨t2, st t2 a1, b1⟩
  · obtain ⟨k1, k2, k3⟩ := vx_keep h0 e1 hS hAX hf hL hF
    obtain ⟨t2, a1, b1⟩ := kx E ce q u t T'.heap (locs ++ L) e1.symm (by rw [← e2]; exact X'.warmed.alike) hp hb k1 k2 k3 (by rw [e1]; exact hce) hcv hcl T' rfl X'
    exact ⟨t2, st.trans a1, b1⟩
theorem vx_calll {S SX : Type} {post : Int64 → S → Prop} {px : SX → Prop} {B : S → State → Prop} {BX : String → SX → State → Prop} {AX : Nat → Prop} (hr : vx_Run p l e R s m args below meth c H locs cells slots mc ms (F0 m pc ls st0) rest (va_Ql post B A1 a) (vx_X px BX AX) free) (hS : va_S A0 H0 H locs) (hA : ∀ q, q < H.size → A1 q → A0 q) (hf : ∀ q, free q → A0 q) (hAX : ∀ q, q < H.size → AX q → A0 q)
    (kx : ∀ (E : String) (ce : Cell) (q9 : Addr) (u : SX) (t : State) (H1 : Heap) (locs1 : List Loc), t.heap = H1 → s.vm.Alike t.vm → px u → BX E u t → H.size ≤ H1.size → (∀ q : Nat, q < H.size → ¬ AX q → H1[q]? = H[q]?) → va_S A0 H0 H1 locs1 → H1[q9]? = some ce → ce.vm = .none → s.vm.findClass E = some ce.cls → vx_W p l e R s m args below meth c H1 locs1 (cells + mc) (slots + ms) Q (F0 m pc ls rest) q9)
    (kk : ∀ (r : Int64) (u : S) (t : State) (H1 : Heap) (locs1 : List Loc), t.heap = H1 → s.vm.Alike t.vm → post r u → B u t → H.size ≤ H1.size → (∀ q : Nat, q < H.size → ¬ A1 q → H1[q]? = H[q]?) → va_S A0 H0 H1 locs1 → W p l e R s m args below meth c H1 locs1 (cells + mc) (slots + ms) Q (F0 m (pc + 3) ls (.long r :: rest))) : W p l e R s m args below meth c H locs cells slots Q (F0 m pc ls st0) := by
  intro T hT X
  rcases hr T hT X with ⟨v, st₀, t, T', L, h0, X', hL, e1, e2, ⟨⟨r, u, hv, hp, hb⟩, hF⟩, st⟩ | ⟨q, st₀, t, T', L, E, ce, h0, X', hL, e1, e2, ⟨u, hp, hb, hF⟩, hce, hcv, hcl, st⟩
  · cases hv
    obtain ⟨k1, k2, k3⟩ := vx_keep h0 e1 hS hA hf hL hF
    obtain ⟨t2, a1, b1⟩ := kk r u t T'.heap (locs ++ L) e1.symm (by rw [← e2]; exact X'.warmed.alike) hp hb k1 k2 k3 T' rfl X'
    exact ⟨t2, st t2 a1, b1⟩
  · obtain ⟨k1, k2, k3⟩ := vx_keep h0 e1 hS hAX hf hL hF
    obtain ⟨t2, a1, b1⟩ := kx E ce q u t T'.heap (locs ++ L) e1.symm (by rw [← e2]; exact X'.warmed.alike) hp hb k1 k2 k3 (by rw [e1]; exact hce) hcv hcl T' rfl X'
    exact ⟨t2, st.trans a1, b1⟩
theorem vx_callf {S SX : Type} {post : UInt32 → S → Prop} {px : SX → Prop} {B : S → State → Prop} {BX : String → SX → State → Prop} {AX : Nat → Prop} (hr : vx_Run p l e R s m args below meth c H locs cells slots mc ms (F0 m pc ls st0) rest (va_Qf post B A1 a) (vx_X px BX AX) free) (hS : va_S A0 H0 H locs) (hA : ∀ q, q < H.size → A1 q → A0 q) (hf : ∀ q, free q → A0 q) (hAX : ∀ q, q < H.size → AX q → A0 q)
    (kx : ∀ (E : String) (ce : Cell) (q9 : Addr) (u : SX) (t : State) (H1 : Heap) (locs1 : List Loc), t.heap = H1 → s.vm.Alike t.vm → px u → BX E u t → H.size ≤ H1.size → (∀ q : Nat, q < H.size → ¬ AX q → H1[q]? = H[q]?) → va_S A0 H0 H1 locs1 → H1[q9]? = some ce → ce.vm = .none → s.vm.findClass E = some ce.cls → vx_W p l e R s m args below meth c H1 locs1 (cells + mc) (slots + ms) Q (F0 m pc ls rest) q9)
    (kk : ∀ (r : UInt32) (u : S) (t : State) (H1 : Heap) (locs1 : List Loc), t.heap = H1 → s.vm.Alike t.vm → post r u → B u t → H.size ≤ H1.size → (∀ q : Nat, q < H.size → ¬ A1 q → H1[q]? = H[q]?) → va_S A0 H0 H1 locs1 → W p l e R s m args below meth c H1 locs1 (cells + mc) (slots + ms) Q (F0 m (pc + 3) ls (.float r :: rest))) : W p l e R s m args below meth c H locs cells slots Q (F0 m pc ls st0) := by
  intro T hT X
  rcases hr T hT X with ⟨v, st₀, t, T', L, h0, X', hL, e1, e2, ⟨⟨r, u, hv, hp, hb⟩, hF⟩, st⟩ | ⟨q, st₀, t, T', L, E, ce, h0, X', hL, e1, e2, ⟨u, hp, hb, hF⟩, hce, hcv, hcl, st⟩
  · cases hv
    obtain ⟨k1, k2, k3⟩ := vx_keep h0 e1 hS hA hf hL hF
    obtain ⟨t2, a1, b1⟩ := kk r u t T'.heap (locs ++ L) e1.symm (by rw [← e2]; exact X'.warmed.alike) hp hb k1 k2 k3 T' rfl X'
    exact ⟨t2, st t2 a1, b1⟩
  · obtain ⟨k1, k2, k3⟩ := vx_keep h0 e1 hS hAX hf hL hF
    obtain ⟨t2, a1, b1⟩ := kx E ce q u t T'.heap (locs ++ L) e1.symm (by rw [← e2]; exact X'.warmed.alike) hp hb k1 k2 k3 (by rw [e1]; exact hce) hcv hcl T' rfl X'
    exact ⟨t2, st.trans a1, b1⟩
theorem vx_calld {S SX : Type} {post : UInt64 → S → Prop} {px : SX → Prop} {B : S → State → Prop} {BX : String → SX → State → Prop} {AX : Nat → Prop} (hr : vx_Run p l e R s m args below meth c H locs cells slots mc ms (F0 m pc ls st0) rest (va_Qd post B A1 a) (vx_X px BX AX) free) (hS : va_S A0 H0 H locs) (hA : ∀ q, q < H.size → A1 q → A0 q) (hf : ∀ q, free q → A0 q) (hAX : ∀ q, q < H.size → AX q → A0 q)
    (kx : ∀ (E : String) (ce : Cell) (q9 : Addr) (u : SX) (t : State) (H1 : Heap) (locs1 : List Loc), t.heap = H1 → s.vm.Alike t.vm → px u → BX E u t → H.size ≤ H1.size → (∀ q : Nat, q < H.size → ¬ AX q → H1[q]? = H[q]?) → va_S A0 H0 H1 locs1 → H1[q9]? = some ce → ce.vm = .none → s.vm.findClass E = some ce.cls → vx_W p l e R s m args below meth c H1 locs1 (cells + mc) (slots + ms) Q (F0 m pc ls rest) q9)
    (kk : ∀ (r : UInt64) (u : S) (t : State) (H1 : Heap) (locs1 : List Loc), t.heap = H1 → s.vm.Alike t.vm → post r u → B u t → H.size ≤ H1.size → (∀ q : Nat, q < H.size → ¬ A1 q → H1[q]? = H[q]?) → va_S A0 H0 H1 locs1 → W p l e R s m args below meth c H1 locs1 (cells + mc) (slots + ms) Q (F0 m (pc + 3) ls (.double r :: rest))) : W p l e R s m args below meth c H locs cells slots Q (F0 m pc ls st0) := by
  intro T hT X
  rcases hr T hT X with ⟨v, st₀, t, T', L, h0, X', hL, e1, e2, ⟨⟨r, u, hv, hp, hb⟩, hF⟩, st⟩ | ⟨q, st₀, t, T', L, E, ce, h0, X', hL, e1, e2, ⟨u, hp, hb, hF⟩, hce, hcv, hcl, st⟩
  · cases hv
    obtain ⟨k1, k2, k3⟩ := vx_keep h0 e1 hS hA hf hL hF
    obtain ⟨t2, a1, b1⟩ := kk r u t T'.heap (locs ++ L) e1.symm (by rw [← e2]; exact X'.warmed.alike) hp hb k1 k2 k3 T' rfl X'
    exact ⟨t2, st t2 a1, b1⟩
  · obtain ⟨k1, k2, k3⟩ := vx_keep h0 e1 hS hAX hf hL hF
    obtain ⟨t2, a1, b1⟩ := kx E ce q u t T'.heap (locs ++ L) e1.symm (by rw [← e2]; exact X'.warmed.alike) hp hb k1 k2 k3 (by rw [e1]; exact hce) hcv hcl T' rfl X'
    exact ⟨t2, st.trans a1, b1⟩
theorem vx_callv {S SX : Type} {post : S → Prop} {px : SX → Prop} {B : S → State → Prop} {BX : String → SX → State → Prop} {AX : Nat → Prop} (hr : vx_Run p l e R s m args below meth c H locs cells slots mc ms (F0 m pc ls st0) rest (va_Qv post B A1 a) (vx_X px BX AX) free) (hS : va_S A0 H0 H locs) (hA : ∀ q, q < H.size → A1 q → A0 q) (hf : ∀ q, free q → A0 q) (hAX : ∀ q, q < H.size → AX q → A0 q)
    (kx : ∀ (E : String) (ce : Cell) (q9 : Addr) (u : SX) (t : State) (H1 : Heap) (locs1 : List Loc), t.heap = H1 → s.vm.Alike t.vm → px u → BX E u t → H.size ≤ H1.size → (∀ q : Nat, q < H.size → ¬ AX q → H1[q]? = H[q]?) → va_S A0 H0 H1 locs1 → H1[q9]? = some ce → ce.vm = .none → s.vm.findClass E = some ce.cls → vx_W p l e R s m args below meth c H1 locs1 (cells + mc) (slots + ms) Q (F0 m pc ls rest) q9)
    (kk : ∀ (u : S) (t : State) (H1 : Heap) (locs1 : List Loc), t.heap = H1 → s.vm.Alike t.vm → post u → B u t → H.size ≤ H1.size → (∀ q : Nat, q < H.size → ¬ A1 q → H1[q]? = H[q]?) → va_S A0 H0 H1 locs1 → W p l e R s m args below meth c H1 locs1 (cells + mc) (slots + ms) Q (F0 m (pc + 3) ls (rest))) : W p l e R s m args below meth c H locs cells slots Q (F0 m pc ls st0) := by
  intro T hT X
  rcases hr T hT X with ⟨v, st₀, t, T', L, h0, X', hL, e1, e2, ⟨⟨u, hv, hp, hb⟩, hF⟩, st⟩ | ⟨q, st₀, t, T', L, E, ce, h0, X', hL, e1, e2, ⟨u, hp, hb, hF⟩, hce, hcv, hcl, st⟩
  · cases hv
    obtain ⟨k1, k2, k3⟩ := vx_keep h0 e1 hS hA hf hL hF
    obtain ⟨t2, a1, b1⟩ := kk u t T'.heap (locs ++ L) e1.symm (by rw [← e2]; exact X'.warmed.alike) hp hb k1 k2 k3 T' rfl X'
    exact ⟨t2, st t2 a1, b1⟩
  · obtain ⟨k1, k2, k3⟩ := vx_keep h0 e1 hS hAX hf hL hF
    obtain ⟨t2, a1, b1⟩ := kx E ce q u t T'.heap (locs ++ L) e1.symm (by rw [← e2]; exact X'.warmed.alike) hp hb k1 k2 k3 (by rw [e1]; exact hce) hcv hcl T' rfl X'
    exact ⟨t2, st.trans a1, b1⟩
/-- caught by the row x of this method's table; the rows ahead don't take it -/
theorem vx_catch {own name : String} {E : String} {ce : Cell} {q : Addr} (hown : s.vm.findClass own = some m.cls) (pre : List ExceptionTableEntry) (x : ExceptionTableEntry) (suf : List ExceptionTableEntry) (hsplit : c.exceptionTable.toList = pre ++ x :: suf)
    (hpass : ∀ z ∈ pre, covers z pc = false ∨ (z.catchType ≠ 0 ∧ ∃ nm : String, (Cond.classLink own z.catchType nm).before args s = true ∧ va_Nc E nm s)) (hx : covers x pc = true) (h0 : x.catchType ≠ 0)
    (hlink : (Cond.classLink own x.catchType name).before args s = true) (hcast : (Cond.castable E name).before args s = true) (hcell : H[q]? = some ce) (hv : ce.vm = .none) (hcl : s.vm.findClass E = some ce.cls)
    (kk : W p l e R s m args below meth c H locs cells slots Q (F0 m x.handlerPc ls [.ref q])) : vx_W p l e R s m args below meth c H locs cells slots Q (F0 m pc ls rest) q := by
  intro T hT X
  have hpl : e.platform.magicAccessors = ({} : Platform).magicAccessors := by rw [X.admits.platform]
  obtain ⟨c3, c4, hc3, hc4, hasg⟩ := Cond.castable_spec hcast
  cases Option.some.inj (hc3.symm.trans hcl)
  obtain ⟨c5, hc5, hcl5⟩ := Cond.classLink_spec hown hlink e.platform hpl
  cases Option.some.inj (hc4.symm.trans hc5)
  obtain ⟨vm', X', st⟩ := X.thenCaughtThrough q (g := F0 m pc ls rest) rfl (Steps.refl _) (by rw [hT]; exact hcell) (by rw [hv]; rfl) (by obtain ⟨k9, h9, -⟩ := Vm.findClass_spec hcl; exact ⟨k9, h9⟩) pre x suf hsplit
    (fun z hz => by
      rcases hpass z hz with h | ⟨hz0, nm, hl1, hn1⟩
      · exact Or.inl h
      · obtain ⟨c6, hc6, hcl6⟩ := Cond.classLink_spec hown hl1 e.platform hpl
        obtain ⟨a8, b8, h1, h2, h3⟩ := hn1
        cases Option.some.inj (h1.symm.trans hcl)
        cases Option.some.inj (h2.symm.trans hc6)
        exact Or.inr ⟨hz0, _, hcl6, h3⟩) hx (Or.inr ⟨h0, c4, hcl5, hasg⟩)
  obtain ⟨t, a1, b1⟩ := kk (T.setVm vm') hT X'
  exact ⟨t, st.trans a1, b1⟩
end Rows
section Ends
variable {p : Program} {l : Launch} {e : Env} {R : Room} {s : State} {m : MethodId} {args : Array Value} {below : List Frame} {meth : Method} {c : Code} {H : Heap} {locs : List Loc} {cells slots : Nat} {Q : State → Prop}
variable {mc ms : Nat} {free : Addr → Prop} {A0 A1 : Nat → Prop} {H0 : Heap} {a : Array Value} {ls : Array Slot} {st0 rest : List Value}
variable {Qc : Array Value → State → Outcome → State → Prop} {XC : String → State → State → Prop}
/-- what a body that may throw owes at its end -/
def vx_MQ (below : List Frame) (Qc : Array Value → State → Outcome → State → Prop) (XC : String → State → State → Prop) (a : Array Value) (s : State) (mc ms : Nat) (free : Addr → Prop) : State → Prop := fun t =>
  ∃ o, t.status = .running ∧ Ended t below o ∧ vx_Q Qc XC mc ms free a s o t
theorem vx_ret {g : JFrame} {mc ms : Nat} (k : W p l e R s m args below meth c H locs cells slots (MQ below Qc args s mc ms free) g) : W p l e R s m args below meth c H locs cells slots (vx_MQ below Qc XC args s mc ms free) g := by
  intro T hT X
  obtain ⟨t, a1, o, b1, b2, b3, b4⟩ := k T hT X
  exact ⟨t, a1, o, b1, b2, Or.inl ⟨b3, b4⟩⟩
/-- not caught here: it goes on to the caller -/
theorem vx_widen {g : JFrame} {q : Addr} {k n : Nat} (h1 : cells ≤ k) (h2 : slots ≤ n) (kk : vx_W p l e R s m args below meth c H locs k n Q g q) : vx_W p l e R s m args below meth c H locs cells slots Q g q := fun T hT X => kk T hT (stand_widen X h1 h2)
theorem vx_out {pc : Nat} {E : String} {ce : Cell} {q : Addr} {mc ms : Nat} (hout : ∀ x ∈ c.exceptionTable.toList, covers x pc = false) (hlocks : meth.locks = false) (hcell : H[q]? = some ce) (hv : ce.vm = .none) (hcl : s.vm.findClass E = some ce.cls)
    (hx : ∀ t : State, t.heap = H → s.vm.Alike t.vm → XC E s t) (hf : ∀ z ∈ locs, free z.base) (hc : cells ≤ mc) (hs : slots ≤ ms) :
    vx_W p l e R s m args below meth c H locs cells slots (vx_MQ below Qc XC args s mc ms free) (F0 m pc ls rest) q := by
  intro T hT X
  obtain ⟨st1, hrun, hend, hW, hsm⟩ := X.leaveThrown q (g := F0 m pc ls rest) rfl rfl rfl hout hlocks
  have hcell9 : (T.setFrames (.throwing q :: below)).heap[q]? = some ce := by
    show T.heap[q]? = some ce
    rw [hT]; exact hcell
  exact ⟨_, st1, .threw q, hrun, hend, Or.inr ⟨q, rfl, E, ce, locs, hx _ hT hW.alike, hcell9, hv, hcl, hW, hsm.mono hc hs, hf⟩⟩
theorem vx_frame {U : State} {k n : Nat} (h : s.sameButNew ({ U with vm := s.vm } : State) locs k n) : s.heap.size ≤ U.heap.size ∧ ∀ q : Nat, q < s.heap.size → (∀ z ∈ locs, z.base ≠ q) → U.heap[q]? = s.heap[q]? := by
  obtain ⟨-, h2, -, -, -, h6⟩ := h
  refine ⟨h2, fun q hq hz => ?_⟩
  obtain ⟨c9, e1, e2, e3, e4⟩ := h6 q _ (Array.getElem?_eq_getElem hq)
  have hs : c9.slots = (s.heap[q]).slots := Array.ext_getElem? fun i => e4 i fun hm => hz _ hm rfl
  have h9 : c9 = s.heap[q] := by
    rw [hs] at e2
    exact e2
  have e5 : U.heap[q]? = some c9 := e1
  rw [e5, h9, Array.getElem?_eq_getElem hq]
/-- the words of a throw but the four that speak of the heap -/
def vx_no (w : Cond) : Bool := decide (w ≠ .isRef (.static Bundle.tN "UNASSIGNED_STACK" Bundle.steD)) && decide (w ≠ .isRef (.static Bundle.tN "SUPPRESSED_SENTINEL" Bundle.listD)) && decide (w ≠ .laysStatic Bundle.tN "UNASSIGNED_STACK" Bundle.steD) && decide (w ≠ .laysStatic Bundle.tN "SUPPRESSED_SENTINEL" Bundle.listD)
def vx_at0 (own : String) (ic : Nat) (X : String) (names : List String) : List Cond := (Bundle.ownAtoms0 own ic X names).filter vx_no
def vx_atS (own : String) (ic : Nat) (X : String) (names : List String) : List Cond := (Bundle.ownAtoms own ic X names).filter vx_no
/-- a word that the tables alone decide, or a good one -/
def vx_ot (w : Cond) : Bool := w.onTables || goodWord w
theorem vx_ot_at {args a' : Array Value} {s U : State} {w : Cond} (hW : s.WarmedH U.vm) (hvm : s.vm = U.vm) (hg : vx_ot w = true) (h : w.before args s = true) : w.before a' U = true := by
  simp only [vx_ot, Bool.or_eq_true] at hg
  rcases hg with hg | hg
  · exact va_tabs hg hvm h
  · exact word_at hW (good_of_word hg) h
/-- a list's words: the good ones out of the method's own list, the others by premises of their own -/
theorem vx_hat {args : Array Value} {s : State} {L B : List Cond} (h1 : ∀ w ∈ L.filter goodWord, w.before args s = true) (h2 : ∀ w ∈ L.filter (fun w => !goodWord w), w ∈ B) (h3 : ∀ w ∈ B, w.before args s = true) : ∀ w ∈ L, w.before args s = true := by
  intro w hw
  by_cases g : goodWord w = true
  · exact h1 w (List.mem_filter.mpr ⟨hw, g⟩)
  · refine h3 w (h2 w (List.mem_filter.mpr ⟨hw, ?_⟩))
    show (!goodWord w) = true
    cases hgw : goodWord w
    · rfl
    · exact absurd hgw g
theorem vx_c {args : Array Value} {s : State} {w : Cond} {B : List Cond} (h : w.before args s = true) (t : ∀ w ∈ B, w.before args s = true) : ∀ w' ∈ w :: B, w'.before args s = true := fun w' h' => (List.mem_cons.mp h').elim (fun e => by rw [e]; exact h) (t w')
theorem vx_n {args : Array Value} {s : State} : ∀ w ∈ ([] : List Cond), w.before args s = true := fun _ h => nomatch h
theorem vx_own {args : Array Value} {s : State} {L : List Cond} (h1 : ∀ w ∈ L.filter vx_no, w.before args s = true)
    (hU : (Cond.isRef (.static Bundle.tN "UNASSIGNED_STACK" Bundle.steD)).before args s = true) (hN : (Cond.isRef (.static Bundle.tN "SUPPRESSED_SENTINEL" Bundle.listD)).before args s = true)
    (lU : (Cond.laysStatic Bundle.tN "UNASSIGNED_STACK" Bundle.steD).before args s = true) (lN : (Cond.laysStatic Bundle.tN "SUPPRESSED_SENTINEL" Bundle.listD).before args s = true) : ∀ w ∈ L, w.before args s = true := by
  intro w hw
  by_cases e1 : w = .isRef (.static Bundle.tN "UNASSIGNED_STACK" Bundle.steD)
  · rw [e1]; exact hU
  · by_cases e2 : w = .isRef (.static Bundle.tN "SUPPRESSED_SENTINEL" Bundle.listD)
    · rw [e2]; exact hN
    · by_cases e3 : w = .laysStatic Bundle.tN "UNASSIGNED_STACK" Bundle.steD
      · rw [e3]; exact lU
      · by_cases e4 : w = .laysStatic Bundle.tN "SUPPRESSED_SENTINEL" Bundle.listD
        · rw [e4]; exact lN
        · exact h1 w (List.mem_filter.mpr ⟨hw, by unfold vx_no; rw [decide_eq_true e1, decide_eq_true e2, decide_eq_true e3, decide_eq_true e4]; rfl⟩)
/-- where a static field lies, its class's statics cell in H -/
def vx_L (C n d : String) (A : Nat → Prop) (U : State) (H : Heap) : Prop := ∃ (c : ClassId) (k : Class) (i : Nat) (f : Field) (a : Nat) (cell : Cell), U.vm.findClass C = some c ∧ U.fieldFound? C n d = some (c, k, i, f) ∧ f.isStatic = true ∧ k.statics = some a ∧ H[a]? = some cell ∧ cell.vm.isStatics = true ∧ cell.cls = c ∧ f.slot < cell.slots.size ∧ k.staticTypes[f.slot]? = some f.type ∧ ¬ A a
theorem vx_L.moved {C n d : String} {A : Nat → Prop} {u U : State} {H : Heap} (hvm : u.vm.Alike U.vm) (h : vx_L C n d A u H) : vx_L C n d A U H := by
  obtain ⟨c, k, i, f, a, cell, h1, h2, h3, h4, h5, h6, h7, h8, h9, h10⟩ := h
  obtain ⟨k', hi', he⟩ := State.fieldFound?_setVm hvm h2
  exact ⟨c, k', i, f, a, cell, by rw [hvm.findClass]; exact h1, hi', h3, by rw [he]; exact h4, h5, h6, h7, h8, by rw [he]; exact h9, h10⟩
theorem vx_L.kept {C n d : String} {A : Nat → Prop} {U : State} {H H1 : Heap} (h : vx_L C n d A U H) (hq : ∀ a : Nat, a < H.size → ¬ A a → H1[a]? = H[a]?) : vx_L C n d A U H1 := by
  obtain ⟨c, k, i, f, a, cell, h1, h2, h3, h4, h5, h6, h7, h8, h9, h10⟩ := h
  exact ⟨c, k, i, f, a, cell, h1, h2, h3, h4, by rw [hq a (Array.getElem?_eq_some_iff.mp h5).1 h10]; exact h5, h6, h7, h8, h9, h10⟩
theorem vx_L.narrow {C n d : String} {A B : Nat → Prop} {U : State} {H : Heap} (h : vx_L C n d A U H) (hAB : ∀ q, B q → A q) : vx_L C n d B U H := by
  obtain ⟨c, k, i, f, a, cell, h1, h2, h3, h4, h5, h6, h7, h8, h9, h10⟩ := h
  exact ⟨c, k, i, f, a, cell, h1, h2, h3, h4, h5, h6, h7, h8, h9, fun z => h10 (hAB _ z)⟩
theorem vx_L.word {C n d : String} {A : Nat → Prop} {s : State} {args : Array Value} (h : vx_L C n d A s s.heap) : (Cond.laysStatic C n d).before args s = true := by
  obtain ⟨c, k, i, f, a, cell, h1, h2, h3, h4, h5, h6, h7, h8, h9, -⟩ := h
  show (Cond.laysStatic C n d).holds args s none s [] = true
  exact Cond.laysStatic_of h1 h2 h3 h4 h5 h6 h7 h8 h9
/-- .. and what it holds: null or some reference -/
def vx_Zq (C n d : String) (A : Nat → Prop) (U : State) (H : Heap) : Prop := va_Zq C n d A U H ∧ vx_L C n d A U H
theorem vx_Zq.moved {C n d : String} {A : Nat → Prop} {u U : State} {H : Heap} (hvm : u.vm.Alike U.vm) (h : vx_Zq C n d A u H) : vx_Zq C n d A U H := ⟨va_Zq.moved hvm h.1, vx_L.moved hvm h.2⟩
theorem vx_Zq.kept {C n d : String} {A : Nat → Prop} {U : State} {H H1 : Heap} (h : vx_Zq C n d A U H) (hq : ∀ a : Nat, a < H.size → ¬ A a → H1[a]? = H[a]?) : vx_Zq C n d A U H1 := ⟨va_Zq.kept h.1 hq, vx_L.kept h.2 hq⟩
theorem vx_Zq.narrow {C n d : String} {A B : Nat → Prop} {U : State} {H : Heap} (h : vx_Zq C n d A U H) (hAB : ∀ q, B q → A q) : vx_Zq C n d B U H := ⟨va_Zq.narrow h.1 hAB, vx_L.narrow h.2 hAB⟩
theorem vx_Zqof {args : Array Value} {s : State} {C n d : String} {A : Nat → Prop} (hl : (Cond.laysStatic C n d).before args s = true) (hini : (Cond.initialized C).before args s = true) (h : (Cond.isRef (.static C n d)).before args s = true) (hA : ∀ a : Nat, a < s.heap.size → ¬ A a) : vx_Zq C n d A s s.heap := by
  refine ⟨va_Zqof hl hini h hA, ?_⟩
  obtain ⟨c, k, i, f, a, cell, h1, h2, h3, h4, h5, h6, h7, h8, h9⟩ := Cond.laysStatic_spec hl
  exact ⟨c, k, i, f, a, cell, h1, h2, h3, h4, h5, h6, h7, h8, h9, hA a (Array.getElem?_eq_some_iff.mp h5).1⟩
theorem vx_isRef {C n d : String} {v : Value} {A : Nat → Prop} {s : State} {args : Array Value} (h : va_Z C n d v A s s.heap) (hv : v.isRef = true) : (Cond.isRef (.static C n d)).before args s = true := by
  obtain ⟨cf, kf, fi, f, a, cell, h1, h2, h3, h4, h5, h6, h7, -⟩ := h
  have he : (Term.static C n d).eval args s none [] s = some v := by
    simp [Term.eval, State.fieldNamed?, h1, h2, h4, h5, h6, h7]
  simp only [Cond.before, Cond.holds, Cond.value, he]
  cases v <;> simp_all [Value.isRef]
theorem vx_isRefq {C n d : String} {A : Nat → Prop} {s : State} {args : Array Value} (h : va_Zq C n d A s s.heap) : (Cond.isRef (.static C n d)).before args s = true := by
  rcases h with h | ⟨t, h⟩
  · exact vx_isRef h rfl
  · exact vx_isRef h rfl
/-- the same frame, seen from here: as if the method were called anew in this heap -/
theorem vx_rebase {T : State} (X : Stand p l e R s m args below meth c T locs cells slots) {R' : Room} (hf : R'.frames ≤ R.frames) (hl : R'.locals ≤ R.locals) (hc : cells + R'.cells ≤ R.cells) (hs : slots + R'.slots ≤ R.slots) :
    Stand p l e R' ((T.setVm s.vm).setFrames (.invoking m args :: below)) m args below meth c T [] 0 0 := by
  have htop : (T.setVm s.vm).topJava?.isSome := X.here.top
  have hF : ((T.setVm s.vm).setFrames (.invoking m args :: below)).frames = .invoking m args :: below := State.frames_setFrames _ (State.cur_lt_of_top htop)
  obtain ⟨g₀, hg0⟩ := Option.isSome_iff_exists.mp htop
  obtain ⟨r, hr⟩ := State.topJava?_eq_some.mp hg0
  have hl9 : e.platform.stackLimits (T.setVm s.vm).me = e.platform.stackLimits s.me := X.limits
  have hb9 : (T.setVm s.vm).me.stackBytes = s.me.stackBytes := X.bytes
  refine ⟨X.admits, X.cas, X.clock, hF, ?_, X.hears, X.method, X.code, X.here, X.tail, X.warmed, ?_, ?_, ?_⟩
  · have h := X.room
    have hU : ((T.setVm s.vm).setFrames (.invoking m args :: below)).localsInUse = s.localsInUse := by
      rw [State.localsInUse_invoking hF (meth := meth) (c := c) X.method X.code, State.localsInUse_invoking X.frames X.method X.code]
    simp only [State.hasRoom, Bool.and_eq_true, decide_eq_true_eq] at h ⊢
    obtain ⟨⟨⟨⟨h1, h2, h3, h4, h5, h6⟩, h7⟩, h8⟩, h9⟩ := h
    rw [X.frames, List.length_cons] at h2 h3
    have q1 := X.heapSize
    have q2 := X.used
    simp only [hF, hU, List.length_cons, State.stackLimits_setFrames, State.stackBytes_setFrames, hl9, hb9]
    refine ⟨⟨⟨⟨by omega, by omega, by omega, by omega, by omega, h6⟩, ?_⟩, ?_⟩, X.book⟩
    · show T.heap.size + R'.cells ≤ e.platform.maxCells
      omega
    · show T.slotsUsed + R'.slots ≤ e.platform.maxSlots
      omega
  · rw [State.stackLimits_setFrames]; rfl
  · rw [State.stackBytes_setFrames]; rfl
  · refine ⟨?_, Nat.le_refl _, Nat.le_refl _, ?_, ?_, fun a c9 h9 => ⟨c9, h9, rfl, rfl, fun _ _ => rfl⟩⟩
    · obtain ⟨t, ht, -⟩ := State.frames_cons hr
      show T.setVm s.vm = { ((T.setVm s.vm).setFrames (.invoking m args :: below)).setFrames (T.setVm s.vm).frames with heap := T.heap, slotsUsed := T.slotsUsed }
      rw [State.setFrames_setFrames, State.setFrames_self ht]
      rfl
    · show T.slotsUsed = T.slotsUsed + ((T.heap.toList.drop T.heap.size).map (·.slots.size)).sum
      rw [List.drop_eq_nil_of_le (Nat.le_of_eq Array.length_toList)]
      rfl
    · show ((T.heap.toList.drop T.heap.size).map (·.slots.size)).sum ≤ 0
      rw [List.drop_eq_nil_of_le (Nat.le_of_eq Array.length_toList)]
      exact Nat.le_refl _
/-- 'throw new E()': new; dup; invokespecial; athrow -/
theorem vx_throw0 {cc : ByteArray} {pc : Nat} (hexec : p.tables.exec = Jvm.exec) (hb : c.code = cc) (hl : l.stackTraces = false) {own cls : String} {names : List String} {ik ic mc ms : Nat} {A : Nat → Prop}
    (hown : s.vm.findClass own = some m.cls) (hcls : Bundle.fit cls = true) (hnames : ∀ n ∈ names, Bundle.fit n = true)
    (hk : (Cond.classLink own ik cls).before args s = true) (hini : (Cond.initialized cls).before args s = true) (hat : ∀ w ∈ vx_at0 own ic cls names, w.before args s = true)
    (hgood : ∀ w ∈ Cond.classLink own ik cls :: Cond.initialized cls :: vx_at0 own ic cls names, vx_ot w = true)
    (hU : vx_Zq Bundle.tN "UNASSIGNED_STACK" Bundle.steD A s s.heap) (hN : vx_Zq Bundle.tN "SUPPRESSED_SENTINEL" Bundle.listD A s s.heap) (hS : va_S A s.heap H locs) (hsize : ls.size = c.maxLocals)
    (d0 : decode cc pc = .ok (.new ik, 3)) (d3 : decode cc (pc + 3) = .ok (.dup, 1)) (d4 : decode cc (pc + 4) = .ok (.invokespecial ic, 3)) (d7 : decode cc (pc + 7) = .ok (.athrow, 1))
    (hout : ∀ x ∈ c.exceptionTable.toList, covers x (pc + 7) = false)
    (hRframes : names.length + 3 < R.frames) (hRlocals : (rest.map fun v => v.category).sum + (13 * (names.length + 1) + 42) ≤ R.locals) (hRcells : cells + 1 ≤ R.cells) (hRslots : slots + 6 ≤ R.slots) (hlocks : meth.locks = false)
    (hx : ∀ t : State, s.vm.Alike t.vm → H.size ≤ t.heap.size → (∀ q : Nat, q < H.size → t.heap[q]? = H[q]?) → XC cls s t)
    (hf : ∀ z ∈ locs, free z.base) (hc : cells + 1 ≤ mc) (hs : slots + 6 ≤ ms) :
    W p l e R s m args below meth c H locs cells slots (vx_MQ below Qc XC args s mc ms free) (F0 m pc ls rest) := by
  intro T hT X
  have htr : e.platform.stackTraces = false := (show e.platform.stackTraces = l.stackTraces by rw [X.admits.platform]).trans hl
  have Y := vx_rebase X (R' := { frames := R.frames, locals := R.locals, cells := 1, slots := 6 }) (Nat.le_refl _) (Nat.le_refl _) hRcells hRslots
  obtain ⟨s', hA⟩ : ∃ z, z = (T.setVm s.vm).setFrames (.invoking m args :: below) := ⟨_, rfl⟩
  rw [← hA] at Y
  have hvm : s'.vm = s.vm := by rw [hA]; rfl
  have hhp : s'.heap = H := by rw [hA]; exact hT
  have hW0 : s.WarmedH s'.vm := by rw [hvm]; exact State.WarmedH.refl s
  have hat' : ∀ w ∈ vx_at0 own ic cls names, w.before args s' = true := fun w hw => vx_ot_at hW0 hvm.symm (hgood w (List.mem_cons_of_mem _ (List.mem_cons_of_mem _ hw))) (hat w hw)
  have hk' : (Cond.classLink own ik cls).before args s' = true := vx_ot_at hW0 hvm.symm (hgood _ List.mem_cons_self) hk
  have hini' : (Cond.initialized cls).before args s' = true := vx_ot_at hW0 hvm.symm (hgood _ (List.mem_cons_of_mem _ List.mem_cons_self)) hini
  have hU' : vx_Zq Bundle.tN "UNASSIGNED_STACK" Bundle.steD A s' s'.heap := by rw [hhp]; exact vx_Zq.moved hW0.alike (hU.kept hS.2.1)
  have hN' : vx_Zq Bundle.tN "SUPPRESSED_SENTINEL" Bundle.listD A s' s'.heap := by rw [hhp]; exact vx_Zq.moved hW0.alike (hN.kept hS.2.1)
  have h : ∀ w ∈ Bundle.ownAtoms0 own ic cls names, w.before args s' = true := vx_own hat' (vx_isRefq hU'.1) (vx_isRefq hN'.1) hU'.2.word hN'.2.word
  have hown' : s'.vm.findClass own = some m.cls := by rw [hvm]; exact hown
  have hins : (Cond.instantiable cls 6).before args s' = true := h _ (by simp [Bundle.ownAtoms0])
  obtain ⟨vm₁, cX, kX, hfX, hkX, -, -, X₁, st1⟩ := Y.newCold hexec (own := own) (C := cls) (index := ik) (n := 6) hown' hk' hins hini'
    (g := F0 m pc ls rest) rfl (by rw [hb]; exact d0) (Nat.le_refl _) (Nat.le_refl _)
  generalize hT1 : (T.setVm vm₁).pushCell { cls := cX, slots := kX.instanceTypes.map defaultValue, vm := .none } = T1 at X₁ st1
  have hcat : (Value.ref T.heap.size).category = 1 := rfl
  have hcellA : T1.heap[T.heap.size]? = some (freshCell cX kX) := by rw [← hT1]; exact State.heap_pushCell_size _ _
  have d3' : decode c.code (pc + 3) = .ok (.dup, 1) := by rw [hb]; exact d3
  obtain ⟨U, hsteps, hrun, hend, hW, hsame, ce, hce, hO⟩ := X₁.ctorThrow0 hexec htr (own := own) (cls := cls) (names := names) (ic := ic) hown' hcls hnames h (fun x hx => nomatch hx) hfX hkX hcellA (by rw [hhp, hT]; exact Nat.le_refl _)
    (g := { method := m, pc := pc + 4, locals := ls, stack := .ref T.heap.size :: .ref T.heap.size :: rest, locked := none }) rfl hsize rfl rfl (rest := rest) rfl
    (by rw [hb]; exact d4) (by rw [hb]; exact d7) hout hRframes (by simp only [List.map_cons, List.sum_cons, hcat]; omega) hlocks
  obtain ⟨f1, f2⟩ := vx_frame hsame
  rw [hhp] at f1 f2
  have hWs : s.WarmedH U.vm := State.WarmedH.trans hW0 hW
  have hcl : s.vm.findClass cls = some ce.cls := by
    have h9 := hO.cls
    rw [hvm] at h9
    exact h9
  have hall : s.sameButNew ({ U with vm := s.vm } : State) locs mc ms := by
    subst hA
    obtain ⟨e1, e2⟩ := hsame
    rw [State.setFrames_setFrames] at e1
    have h2 : (T.setVm s.vm).sameButNew ({ U with vm := s.vm } : State) [] (0 + 1) (0 + 6) := ⟨e1, e2⟩
    have h3 := X.same.trans h2
    rw [List.append_nil] at h3
    exact h3.mono hc hs
  refine ⟨U, ?_, .threw T.heap.size, hrun, hend, Or.inr ⟨T.heap.size, rfl, cls, ce, locs, hx U hWs.alike f1 (fun q hq => f2 q hq (fun z hz => nomatch hz)), hce, hO.vm, hcl, hWs, hall, hf⟩⟩
  refine st1 _ ?_
  show Steps p.tables e below (T1.setTop { method := m, pc := pc + 3, locals := ls, stack := .ref T.heap.size :: rest, locked := none }) _
  jvm_step X₁.here [X₁.here.top, hexec, d3', Value.category]
  exact hsteps
/-- 'throw new E("text")': new; dup; ldc; invokespecial; athrow -/
theorem vx_throwS {cc : ByteArray} {pc : Nat} (hexec : p.tables.exec = Jvm.exec) (hb : c.code = cc) (hl : l.stackTraces = false) {own cls text : String} {names : List String} {ik is ic mc ms sa : Nat} {A : Nat → Prop}
    (hown : s.vm.findClass own = some m.cls) (hcls : Bundle.fit cls = true) (hnames : ∀ n ∈ names, Bundle.fit n = true)
    (hk : (Cond.classLink own ik cls).before args s = true) (hini : (Cond.initialized cls).before args s = true) (hstr : vk_R own is text sa s) (hat : ∀ w ∈ vx_atS own ic cls names, w.before args s = true)
    (hgood : ∀ w ∈ Cond.classLink own ik cls :: Cond.initialized cls :: vx_atS own ic cls names, vx_ot w = true)
    (hU : vx_Zq Bundle.tN "UNASSIGNED_STACK" Bundle.steD A s s.heap) (hN : vx_Zq Bundle.tN "SUPPRESSED_SENTINEL" Bundle.listD A s s.heap) (hS : va_S A s.heap H locs) (hsize : ls.size = c.maxLocals)
    (d0 : decode cc pc = .ok (.new ik, 3)) (d3 : decode cc (pc + 3) = .ok (.dup, 1)) (d4 : decode cc (pc + 4) = .ok (.ldc is, 2)) (d6 : decode cc (pc + 6) = .ok (.invokespecial ic, 3)) (d9 : decode cc (pc + 9) = .ok (.athrow, 1))
    (hout : ∀ x ∈ c.exceptionTable.toList, covers x (pc + 9) = false)
    (hRframes : names.length + 3 < R.frames) (hRlocals : (rest.map fun v => v.category).sum + (13 * (names.length + 1) + 43) ≤ R.locals) (hRcells : cells + 1 ≤ R.cells) (hRslots : slots + 6 ≤ R.slots) (hlocks : meth.locks = false)
    (hx : ∀ t : State, s.vm.Alike t.vm → H.size ≤ t.heap.size → (∀ q : Nat, q < H.size → t.heap[q]? = H[q]?) → XC cls s t)
    (hf : ∀ z ∈ locs, free z.base) (hc : cells + 1 ≤ mc) (hs : slots + 6 ≤ ms) :
    W p l e R s m args below meth c H locs cells slots (vx_MQ below Qc XC args s mc ms free) (F0 m pc ls rest) := by
  intro T hT X
  have htr : e.platform.stackTraces = false := (show e.platform.stackTraces = l.stackTraces by rw [X.admits.platform]).trans hl
  have Y := vx_rebase X (R' := { frames := R.frames, locals := R.locals, cells := 1, slots := 6 }) (Nat.le_refl _) (Nat.le_refl _) hRcells hRslots
  obtain ⟨s', hA⟩ : ∃ z, z = (T.setVm s.vm).setFrames (.invoking m args :: below) := ⟨_, rfl⟩
  rw [← hA] at Y
  have hvm : s'.vm = s.vm := by rw [hA]; rfl
  have hhp : s'.heap = H := by rw [hA]; exact hT
  have hW0 : s.WarmedH s'.vm := by rw [hvm]; exact State.WarmedH.refl s
  have hat' : ∀ w ∈ vx_atS own ic cls names, w.before args s' = true := fun w hw => vx_ot_at hW0 hvm.symm (hgood w (List.mem_cons_of_mem _ (List.mem_cons_of_mem _ hw))) (hat w hw)
  have hk' : (Cond.classLink own ik cls).before args s' = true := vx_ot_at hW0 hvm.symm (hgood _ List.mem_cons_self) hk
  have hini' : (Cond.initialized cls).before args s' = true := vx_ot_at hW0 hvm.symm (hgood _ (List.mem_cons_of_mem _ List.mem_cons_self)) hini
  have hU' : vx_Zq Bundle.tN "UNASSIGNED_STACK" Bundle.steD A s' s'.heap := by rw [hhp]; exact vx_Zq.moved hW0.alike (hU.kept hS.2.1)
  have hN' : vx_Zq Bundle.tN "SUPPRESSED_SENTINEL" Bundle.listD A s' s'.heap := by rw [hhp]; exact vx_Zq.moved hW0.alike (hN.kept hS.2.1)
  have h : ∀ w ∈ Bundle.ownAtoms own ic cls names, w.before args s' = true := vx_own hat' (vx_isRefq hU'.1) (vx_isRefq hN'.1) hU'.2.word hN'.2.word
  have hown' : s'.vm.findClass own = some m.cls := by rw [hvm]; exact hown
  have hins : (Cond.instantiable cls 6).before args s' = true := h _ (by simp [Bundle.ownAtoms])
  obtain ⟨vm₁, cX, kX, hfX, hkX, -, -, X₁, st1⟩ := Y.newCold hexec (own := own) (C := cls) (index := ik) (n := 6) hown' hk' hins hini'
    (g := F0 m pc ls rest) rfl (by rw [hb]; exact d0) (Nat.le_refl _) (Nat.le_refl _)
  generalize hT1 : (T.setVm vm₁).pushCell { cls := cX, slots := kX.instanceTypes.map defaultValue, vm := .none } = T1 at X₁ st1
  have hcat : (Value.ref T.heap.size).category = 1 := rfl
  have hcellA : T1.heap[T.heap.size]? = some (freshCell cX kX) := by rw [← hT1]; exact State.heap_pushCell_size _ _
  have d3' : decode c.code (pc + 3) = .ok (.dup, 1) := by rw [hb]; exact d3
  have d4' : decode c.code (pc + 4) = .ok (.ldc is, 2) := by rw [hb]; exact d4
  have hstr' : vk_R own is text sa s' := vk_R.warm hW0 hstr
  obtain ⟨U, hsteps, hrun, hend, hW, hsame, ce, hce, hO⟩ := X₁.ctorThrowS hexec htr (own := own) (cls := cls) (names := names) (ic := ic) hown' hcls hnames h (fun x hx => nomatch hx) hfX hkX hcellA (by rw [hhp, hT]; exact Nat.le_refl _) (msg := .ref sa) rfl
    (g := { method := m, pc := pc + 6, locals := ls, stack := .ref sa :: .ref T.heap.size :: .ref T.heap.size :: rest, locked := none }) rfl hsize rfl rfl (rest := rest) rfl
    (by rw [hb]; exact d6) (by rw [hb]; exact d9) hout hRframes (by simp only [List.map_cons, List.sum_cons, hcat]; omega) hlocks
  obtain ⟨f1, f2⟩ := vx_frame hsame
  rw [hhp] at f1 f2
  have hWs : s.WarmedH U.vm := State.WarmedH.trans hW0 hW
  have hcl : s.vm.findClass cls = some ce.cls := by
    have h9 := hO.cls
    rw [hvm] at h9
    exact h9
  have hall : s.sameButNew ({ U with vm := s.vm } : State) locs mc ms := by
    subst hA
    obtain ⟨e1, e2⟩ := hsame
    rw [State.setFrames_setFrames] at e1
    have h2 : (T.setVm s.vm).sameButNew ({ U with vm := s.vm } : State) [] (0 + 1) (0 + 6) := ⟨e1, e2⟩
    have h3 := X.same.trans h2
    rw [List.append_nil] at h3
    exact h3.mono hc hs
  refine ⟨U, ?_, .threw T.heap.size, hrun, hend, Or.inr ⟨T.heap.size, rfl, cls, ce, locs, hx U hWs.alike f1 (fun q hq => f2 q hq (fun z hz => nomatch hz)), hce, hO.vm, hcl, hWs, hall, hf⟩⟩
  refine st1 _ ?_
  show Steps p.tables e below (T1.setTop { method := m, pc := pc + 3, locals := ls, stack := .ref T.heap.size :: rest, locked := none }) _
  jvm_step X₁.here [X₁.here.top, hexec, d3', Value.category]
  exact X₁.ldcString hexec (own := own) (text := text) (index := is) (a := sa) hown' hstr'.1 hstr'.2
    (g := { method := m, pc := pc + 4, locals := ls, stack := .ref T.heap.size :: .ref T.heap.size :: rest, locked := none }) rfl d4' _ hsteps
/-- 'throw new E("text")', the text by a wide index -/
theorem vx_throwSW {cc : ByteArray} {pc : Nat} (hexec : p.tables.exec = Jvm.exec) (hb : c.code = cc) (hl : l.stackTraces = false) {own cls text : String} {names : List String} {ik is ic mc ms sa : Nat} {A : Nat → Prop}
    (hown : s.vm.findClass own = some m.cls) (hcls : Bundle.fit cls = true) (hnames : ∀ n ∈ names, Bundle.fit n = true)
    (hk : (Cond.classLink own ik cls).before args s = true) (hini : (Cond.initialized cls).before args s = true) (hstr : vk_R own is text sa s) (hat : ∀ w ∈ vx_atS own ic cls names, w.before args s = true)
    (hgood : ∀ w ∈ Cond.classLink own ik cls :: Cond.initialized cls :: vx_atS own ic cls names, vx_ot w = true)
    (hU : vx_Zq Bundle.tN "UNASSIGNED_STACK" Bundle.steD A s s.heap) (hN : vx_Zq Bundle.tN "SUPPRESSED_SENTINEL" Bundle.listD A s s.heap) (hS : va_S A s.heap H locs) (hsize : ls.size = c.maxLocals)
    (d0 : decode cc pc = .ok (.new ik, 3)) (d3 : decode cc (pc + 3) = .ok (.dup, 1)) (d4 : decode cc (pc + 4) = .ok (.ldc_w is, 3)) (d7 : decode cc (pc + 7) = .ok (.invokespecial ic, 3)) (d10 : decode cc (pc + 10) = .ok (.athrow, 1))
    (hout : ∀ x ∈ c.exceptionTable.toList, covers x (pc + 10) = false)
    (hRframes : names.length + 3 < R.frames) (hRlocals : (rest.map fun v => v.category).sum + (13 * (names.length + 1) + 43) ≤ R.locals) (hRcells : cells + 1 ≤ R.cells) (hRslots : slots + 6 ≤ R.slots) (hlocks : meth.locks = false)
    (hx : ∀ t : State, s.vm.Alike t.vm → H.size ≤ t.heap.size → (∀ q : Nat, q < H.size → t.heap[q]? = H[q]?) → XC cls s t)
    (hf : ∀ z ∈ locs, free z.base) (hc : cells + 1 ≤ mc) (hs : slots + 6 ≤ ms) :
    W p l e R s m args below meth c H locs cells slots (vx_MQ below Qc XC args s mc ms free) (F0 m pc ls rest) := by
  intro T hT X
  have htr : e.platform.stackTraces = false := (show e.platform.stackTraces = l.stackTraces by rw [X.admits.platform]).trans hl
  have Y := vx_rebase X (R' := { frames := R.frames, locals := R.locals, cells := 1, slots := 6 }) (Nat.le_refl _) (Nat.le_refl _) hRcells hRslots
  obtain ⟨s', hA⟩ : ∃ z, z = (T.setVm s.vm).setFrames (.invoking m args :: below) := ⟨_, rfl⟩
  rw [← hA] at Y
  have hvm : s'.vm = s.vm := by rw [hA]; rfl
  have hhp : s'.heap = H := by rw [hA]; exact hT
  have hW0 : s.WarmedH s'.vm := by rw [hvm]; exact State.WarmedH.refl s
  have hat' : ∀ w ∈ vx_atS own ic cls names, w.before args s' = true := fun w hw => vx_ot_at hW0 hvm.symm (hgood w (List.mem_cons_of_mem _ (List.mem_cons_of_mem _ hw))) (hat w hw)
  have hk' : (Cond.classLink own ik cls).before args s' = true := vx_ot_at hW0 hvm.symm (hgood _ List.mem_cons_self) hk
  have hini' : (Cond.initialized cls).before args s' = true := vx_ot_at hW0 hvm.symm (hgood _ (List.mem_cons_of_mem _ List.mem_cons_self)) hini
  have hU' : vx_Zq Bundle.tN "UNASSIGNED_STACK" Bundle.steD A s' s'.heap := by rw [hhp]; exact vx_Zq.moved hW0.alike (hU.kept hS.2.1)
  have hN' : vx_Zq Bundle.tN "SUPPRESSED_SENTINEL" Bundle.listD A s' s'.heap := by rw [hhp]; exact vx_Zq.moved hW0.alike (hN.kept hS.2.1)
  have h : ∀ w ∈ Bundle.ownAtoms own ic cls names, w.before args s' = true := vx_own hat' (vx_isRefq hU'.1) (vx_isRefq hN'.1) hU'.2.word hN'.2.word
  have hown' : s'.vm.findClass own = some m.cls := by rw [hvm]; exact hown
  have hins : (Cond.instantiable cls 6).before args s' = true := h _ (by simp [Bundle.ownAtoms])
  obtain ⟨vm₁, cX, kX, hfX, hkX, -, -, X₁, st1⟩ := Y.newCold hexec (own := own) (C := cls) (index := ik) (n := 6) hown' hk' hins hini'
    (g := F0 m pc ls rest) rfl (by rw [hb]; exact d0) (Nat.le_refl _) (Nat.le_refl _)
  generalize hT1 : (T.setVm vm₁).pushCell { cls := cX, slots := kX.instanceTypes.map defaultValue, vm := .none } = T1 at X₁ st1
  have hcat : (Value.ref T.heap.size).category = 1 := rfl
  have hcellA : T1.heap[T.heap.size]? = some (freshCell cX kX) := by rw [← hT1]; exact State.heap_pushCell_size _ _
  have d3' : decode c.code (pc + 3) = .ok (.dup, 1) := by rw [hb]; exact d3
  have d4' : decode c.code (pc + 4) = .ok (.ldc_w is, 3) := by rw [hb]; exact d4
  have hstr' : vk_R own is text sa s' := vk_R.warm hW0 hstr
  obtain ⟨U, hsteps, hrun, hend, hW, hsame, ce, hce, hO⟩ := X₁.ctorThrowS hexec htr (own := own) (cls := cls) (names := names) (ic := ic) hown' hcls hnames h (fun x hx => nomatch hx) hfX hkX hcellA (by rw [hhp, hT]; exact Nat.le_refl _) (msg := .ref sa) rfl
    (g := { method := m, pc := pc + 7, locals := ls, stack := .ref sa :: .ref T.heap.size :: .ref T.heap.size :: rest, locked := none }) rfl hsize rfl rfl (rest := rest) rfl
    (by rw [hb]; exact d7) (by rw [hb]; exact d10) hout hRframes (by simp only [List.map_cons, List.sum_cons, hcat]; omega) hlocks
  obtain ⟨f1, f2⟩ := vx_frame hsame
  rw [hhp] at f1 f2
  have hWs : s.WarmedH U.vm := State.WarmedH.trans hW0 hW
  have hcl : s.vm.findClass cls = some ce.cls := by
    have h9 := hO.cls
    rw [hvm] at h9
    exact h9
  have hall : s.sameButNew ({ U with vm := s.vm } : State) locs mc ms := by
    subst hA
    obtain ⟨e1, e2⟩ := hsame
    rw [State.setFrames_setFrames] at e1
    have h2 : (T.setVm s.vm).sameButNew ({ U with vm := s.vm } : State) [] (0 + 1) (0 + 6) := ⟨e1, e2⟩
    have h3 := X.same.trans h2
    rw [List.append_nil] at h3
    exact h3.mono hc hs
  refine ⟨U, ?_, .threw T.heap.size, hrun, hend, Or.inr ⟨T.heap.size, rfl, cls, ce, locs, hx U hWs.alike f1 (fun q hq => f2 q hq (fun z hz => nomatch hz)), hce, hO.vm, hcl, hWs, hall, hf⟩⟩
  refine st1 _ ?_
  show Steps p.tables e below (T1.setTop { method := m, pc := pc + 3, locals := ls, stack := .ref T.heap.size :: rest, locked := none }) _
  jvm_step X₁.here [X₁.here.top, hexec, d3', Value.category]
  exact X₁.ldcStringW hexec (own := own) (text := text) (index := is) (a := sa) hown' hstr'.1 hstr'.2
    (g := { method := m, pc := pc + 4, locals := ls, stack := .ref T.heap.size :: .ref T.heap.size :: rest, locked := none }) rfl d4' _ hsteps
end Ends
section Bodies
variable {l : Launch}
theorem vx_ofW {y : MethodName} {ws ws' : List Cond} {rm : Room} {Pc : Array Value → State → Prop} {Qc : Array Value → State → Outcome → State → Prop} {XC : String → State → State → Prop} {mc ms : Nat} {free : Addr → Prop} {cc : ByteArray} {maxL : Nat} {ret : Option FieldType}
    (hy : plainName y.cls = true) (hw : ws = Cond.code y cc maxL ret :: ws')
    (body : ∀ p e s m args below meth c s₁, BodyLoose p l y (headSpec ws rm) cc maxL ret e s m args below meth c s₁ → c.maxLocals = maxL → (∀ x ∈ c.exceptionTable.toList, False) → Pc args s →
      W p l e (headSpec ws rm).room s m args below meth c s.heap [] 0 0 (vx_MQ below Qc XC args s mc ms free) (entryFrame m args maxL)) : vx_Met l y ws rm Pc Qc XC mc ms free := by
  refine MetFree.of_bodyS (code := cc) (maxLocals := maxL) (ret := ret) hy ?_ ?_
  · intro args s m h hn
    obtain ⟨meth, c, h1, h2, h3, h4, h5, h6, -, -⟩ := Cond.code_spec hn (atoms_spec (ws := ws) h _ (by rw [hw]; exact List.mem_cons_self))
    exact ⟨meth, c, h1, h2, h3, h4, h5, h6⟩
  · intro p e s m args below meth c s₁ B hml hP _
    have hh0 : s₁.heap = s.heap := by rw [B.state]; rfl
    have ht : ∀ x ∈ c.exceptionTable.toList, False := by
      obtain ⟨meth9, c9, h1, h2, -, -, -, -, h7, -⟩ := Cond.code_spec B.named (atoms_spec (ws := ws) B.pre _ (by rw [hw]; exact List.mem_cons_self))
      cases Option.some.inj (h1.symm.trans B.method)
      cases Option.some.inj (h2.symm.trans (Stand.of_body B).code)
      intro x hx
      rw [Array.isEmpty_iff.mp h7] at hx
      cases hx
    obtain ⟨t, a1, o, b1, b2, b3⟩ := body p e s m args below meth c s₁ B hml ht hP s₁ hh0 (Stand.of_body B)
    exact ⟨t, o, a1, b1, b2, b3⟩
/-- the table of a body with handlers -/
theorem vx_table {p : Program} {x y : MethodName} {S : Spec} {cc bytes : ByteArray} {maxL maxL' : Nat} {ret ret' : Option FieldType} {e : Env} {s s₁ : State} {m : MethodId} {args : Array Value} {below : List Frame} {meth : Method} {c : Code} {hh : List (Nat × Nat × Nat × Nat)}
    (B : BodyLoose p l y S cc maxL ret e s m args below meth c s₁) (h : (Cond.codeWith y bytes maxL' ret' hh).before args s = true) : c.exceptionTable.toList = tableOf hh := by
  obtain ⟨m9, meth9, c9, hn9, h1, h2, -, -, h6, -⟩ := Cond.codeWith_spec h
  cases Option.some.inj (hn9.symm.trans B.named)
  cases Option.some.inj (h1.symm.trans B.method)
  cases Option.some.inj (h2.symm.trans (Stand.of_body B).code)
  rw [← h6, table_eq]
end Bodies
end VXA
/-! ===== END ===== -/
/-! ===== BEGIN a static call of a method with an exception table ===== -/
section VXS
variable {p : Program} {l : Launch} {e : Env} {R : Room} {s : State} {m : MethodId} {args : Array Value} {below : List Frame} {meth : Method} {c : Code} {T : State} {H : Heap} {locs : List Loc} {cells slots : Nat}
abbrev vx_CSW (R : Room) (s : State) (args : Array Value) (own : String) (index : Nat) (y : MethodName) (bytes : ByteArray) (maxL : Nat) (ret : Option FieldType) (hh : List (Nat × Nat × Nat × Nat)) (ws : List Cond) (rm : Room) (mc ms n : Nat) : Prop :=
  (rm.cells = mc ∧ rm.slots = ms ∧ rm.frames + 1 ≤ R.frames ∧ 8 + (maxL + 11) + rm.locals ≤ R.locals ∧ (∀ w ∈ ws, ∀ (a' : Array Value) (U : State), s.WarmedH U.vm → w.before a' U = true) ∧ Cond.codeWith y bytes maxL ret hh ∈ ws) ∧
  (Cond.codeWith y bytes maxL ret hh).before args s = true ∧ (Cond.initialized y.cls).before args s = true ∧ (y.cls ≠ "java/lang/invoke/MethodHandle" ∧ y.cls ≠ "java/lang/invoke/VarHandle") ∧
  (∀ sig, parseMethodDescriptor y.desc = some sig → n = sig.parameters.length) ∧ (Cond.methodLink own index y).before args s = true ∧ (Cond.static y).before args s = true
theorem vx_cwSW {own : String} {index maxL mc ms : Nat} {y : MethodName} {bytes : ByteArray} {ret : Option FieldType} {hh : List (Nat × Nat × Nat × Nat)} {Ts ws ws' : List Cond} {rm : Room} (n : Nat) (ht : ∀ w ∈ Ts, w.before args s = true) (hT : GoodIn Ts (va_wsS own index y ws)) (hw : ws = Cond.codeWith y bytes maxL ret hh :: ws') (hrc : rm.cells = mc) (hrs : rm.slots = ms)
    (hd : y.cls ≠ "java/lang/invoke/MethodHandle" ∧ y.cls ≠ "java/lang/invoke/VarHandle" ∧ (parseMethodDescriptor y.desc).map (fun d => d.parameters.length) = some n) (hR : rm.frames + 1 ≤ R.frames ∧ 8 + (maxL + 11) + rm.locals ≤ R.locals) :
    vx_CSW R s args own index y bytes maxL ret hh ws rm mc ms n := by
  have ok : ∀ w ∈ va_wsS own index y ws, w.before args s = true := fun w h => ht w (hT w h).1
  have hG : GoodIn Ts ws := fun w h => hT w (by unfold va_wsS; exact List.mem_append_right _ h)
  have hc : Cond.codeWith y bytes maxL ret hh ∈ ws := by rw [hw]; exact List.mem_cons_self
  refine ⟨⟨hrc, hrs, hR.1, hR.2, pay_in ht hG, hc⟩, ht _ (hG _ hc).1, ok _ (by simp [va_wsS]), ⟨hd.1, hd.2.1⟩, fun sig h => ?_, ok _ (by simp [va_wsS]), ok _ (by simp [va_wsS])⟩
  have h2 := hd.2.2
  rw [h] at h2
  exact (Option.some.inj h2).symm
theorem vx_callSW (X : Stand p l e R s m args below meth c T locs cells slots) (hexec : p.tables.exec = Jvm.exec) {own : String} {index : Nat} {y : MethodName} {bytes : ByteArray} {maxL : Nat} {ret : Option FieldType} {hh : List (Nat × Nat × Nat × Nat)}
    (hown : s.vm.findClass own = some m.cls) (hlink : (Cond.methodLink own index y).before args s = true) (hstat : (Cond.static y).before args s = true) (hinit : (Cond.initialized y.cls).before args s = true)
    (hcode : (Cond.codeWith y bytes maxL ret hh).before args s = true) (hy : y.cls ≠ "java/lang/invoke/MethodHandle" ∧ y.cls ≠ "java/lang/invoke/VarHandle")
    {W9 : Nat} {Pre : Pt → Array Value → Prop} {Post : Pt → Array Value → Option Value → Pt → Prop} (hK : Back l R p e below s args y 3 W9 Pre Post)
    {g : JFrame} (hg : g.method = m) (hsize : g.locals.size = c.maxLocals) {argsL rest : List Value} (hlen : ∀ sig, parseMethodDescriptor y.desc = some sig → argsL.length = sig.parameters.length)
    (hstack : g.stack = argsL.reverse ++ rest) (hW : 2 * g.monitorRoom + (rest.map fun v => v.category).sum ≤ W9) (hdg : decode c.code g.pc = .ok (.invokestatic index, 3))
    (hpre : ∀ vm₁, s.WarmedH vm₁ → Pre ⟨T.setVm vm₁, locs, cells, slots⟩ argsL.toArray) :
    ∃ (v : Option Value) (vm₁ : Vm) (B : Pt), s.WarmedH vm₁ ∧ Stand p l e R s m args below meth c B.U B.locs B.cells B.slots ∧ Post ⟨T.setVm vm₁, locs, cells, slots⟩ argsL.toArray v B ∧
      ∀ target, Steps p.tables e below (B.U.setTop { g with pc := g.pc + 3, stack := v.toList ++ rest }) target → Steps p.tables e below (T.setTop g) target := by
  obtain ⟨mk, methM, cM, hnamed, hmethM, -, -, -, -, -, -, hsigM⟩ := Cond.codeWith_spec hcode
  have hstatic : methM.isStatic = true := Cond.static_spec hnamed hmethM hstat
  obtain ⟨kP, hkP, -⟩ := className_of_methodNamed hnamed
  have hinitP : kP.init = .initialized := Cond.initialized_spec (findClass_of_methodNamed hnamed) hkP hinit
  obtain ⟨vm₁, X₁, hstep₁⟩ := X.invokestatic hexec hown hlink hnamed hmethM hstatic hkP hinitP hy (g := g) hg (argsL := argsL) (rest := rest) (hlen _ hsigM) hstack hdg
  obtain ⟨v, B, X', hpost, hsteps⟩ := hK m meth c ⟨T.setVm vm₁, locs, cells, slots⟩ { g with stack := rest } (.invokestatic index) mk argsL.toArray X₁ hg hsize hdg hW (X₁.named hnamed) (hpre vm₁ X₁.warmed)
  exact ⟨v, vm₁, B, X₁.warmed, X', hpost, fun target h => hstep₁ _ fun acts => by rw [doInvoke_state]; exact hsteps.trans h⟩
theorem vx_runSW {y : MethodName} {bytes cc : ByteArray} {maxL nL mc ms n index : Nat} {ret : Option FieldType} {hh : List (Nat × Nat × Nat × Nat)} {ws : List Cond} {rm : Room} {Pc : Array Value → State → Prop} {Qc : Array Value → State → Outcome → State → Prop} {free : Addr → Prop} {Ts : List Cond} {own : String} {As rest : List Value} {g : JFrame}
    (S : CallFix p m c cc nL s args Ts own) (hM : Met l y ws rm Pc Qc mc ms free) (cw : vx_CSW R s args own index y bytes maxL ret hh ws rm mc ms n) (hp : PreS s H Pc As)
    (hg : g.method = m) (hn : As.length = n) (hsize : g.locals.size = nL) (hstack : g.stack = As.reverse ++ rest) (hW : 2 * g.monitorRoom + (rest.map fun v => v.category).sum ≤ 8) (hdg : decode cc g.pc = .ok (.invokestatic index, 3)) (hf : cells + mc ≤ R.cells ∧ slots + ms ≤ R.slots) :
    va_Run p l e R s m args below meth c H locs cells slots mc ms g rest (Qc As.toArray) (free) := by
  obtain ⟨⟨hrc, hrs, hfr, hlo, hws, hcw⟩, hcode, hini, hy, hlen, hl, hstt⟩ := cw
  have hK : Back l R p e below s args y 3 8 (PreOf R mc ms Pc) (PostOf Qc mc ms free) := va_backW (hh := hh) (bytes := bytes) (maxL := maxL) (ret := ret) hM hp.1 hrc hrs hfr hlo hws hcw (fun a' U hW => word_at hW (Or.inl (by first | rfl | simp [Cond.onTables, Cond.keeps, Cond.steady])) hini)
  obtain ⟨hx, hb, hml, ho, -⟩ := S
  intro T hT X
  obtain ⟨v, vm₁, ⟨U', l2, c2, s2⟩, hW₁, X', ⟨g', mk, t, L, e1, e2, hq, h1, hL, h2, h3⟩, st⟩ := vx_callSW X hx (hh := hh) (bytes := bytes) (maxL := maxL) (ret := ret) ho hl hstt hini hcode hy hK hg (hsize.trans hml.symm) (argsL := As) (rest := rest) (fun sig h => hn.trans (hlen sig h)) hstack hW (by rw [hb]; exact hdg)
    (fun vm₁ hW₁ => ⟨hf.1, hf.2, hp.2 (T.setVm vm₁) hT hW₁⟩)
  dsimp only [Pt.U, Pt.locs, Pt.cells, Pt.slots] at X' e1 e2 h1 h2 h3 st
  subst h1; subst h2; subst h3
  exact ⟨v, (T.setVm vm₁).calling g' mk As.toArray, t, U', L, hT, X', hL, e1, e2, hq, st⟩
/-- not caught here, past rows that name other classes: it goes on to the caller -/
theorem vx_outP {p : Program} {l : Launch} {e : Env} {R : Room} {s : State} {m : MethodId} {args : Array Value} {below : List Frame} {meth : Method} {c : Code} {H : Heap} {locs : List Loc} {cells slots : Nat} {free : Addr → Prop} {ls : Array Slot} {rest : List Value} {Qc : Array Value → State → Outcome → State → Prop} {XC : String → State → State → Prop}
    {pc : Nat} {own E : String} {ce : Cell} {q : Addr} {mc ms : Nat} (hown : s.vm.findClass own = some m.cls) (hlocks : meth.locks = false)
    (hpass : ∀ z ∈ c.exceptionTable.toList, covers z pc = false ∨ (z.catchType ≠ 0 ∧ ∃ nm : String, (Cond.classLink own z.catchType nm).before args s = true ∧ va_Nc E nm s)) (hcell : H[q]? = some ce) (hv : ce.vm = .none) (hcl : s.vm.findClass E = some ce.cls)
    (hx : ∀ t : State, t.heap = H → s.vm.Alike t.vm → XC E s t) (hf : ∀ z ∈ locs, free z.base) (hc : cells ≤ mc) (hs : slots ≤ ms) :
    vx_W p l e R s m args below meth c H locs cells slots (vx_MQ below Qc XC args s mc ms free) (F0 m pc ls rest) q := by
  intro T hT X
  have hpl : e.platform.magicAccessors = ({} : Platform).magicAccessors := by rw [X.admits.platform]
  obtain ⟨vm', hW', X', st⟩ := X.outThrough hlocks q (g := F0 m pc ls rest) rfl rfl rfl (cell := ce) (by rw [hT]; exact hcell) (by rw [hv]; rfl)
    (by obtain ⟨k9, h9, -⟩ := Vm.findClass_spec hcl; exact ⟨k9, h9⟩) (fun z hz => by
      rcases hpass z hz with h | ⟨hz0, nm, hl1, hn1⟩
      · exact Or.inl h
      · obtain ⟨c6, hc6, hcl6⟩ := Cond.classLink_spec hown hl1 e.platform hpl
        obtain ⟨a8, b8, h1, h2, h3⟩ := hn1
        cases Option.some.inj (h1.symm.trans hcl)
        cases Option.some.inj (h2.symm.trans hc6)
        exact Or.inr ⟨hz0, _, hcl6, h3⟩)
  obtain ⟨g₀, hfr⟩ := X'.frames_eq
  have hcell9 : ((T.setVm vm').setFrames (.throwing q :: below)).heap[q]? = some ce := by
    show T.heap[q]? = some ce
    rw [hT]; exact hcell
  have hend : Ended ((T.setVm vm').setFrames (.throwing q :: below)) below (.threw q) := State.frames_setFrames _ (State.cur_lt_of_frames hfr)
  refine ⟨(T.setVm vm').setFrames (.throwing q :: below), ?_, .threw q, X'.here.running, hend, Or.inr ⟨q, rfl, E, ce, locs, hx _ hT (X'.ends _).1.alike, hcell9, hv, hcl, (X'.ends _).1, (X'.ends _).2.mono hc hs, hf⟩⟩
  rw [X.pushThrowing_eq]
  exact st
/-- a thing of a world lies in the heap -/
theorem vx_lt {D : va_G} {cl : List vw_C} {ws : va_W} {H1 : Heap} (h : va_P D cl ws H1) {k : Nat} {q : Nat × va_E} (hk : ws[k]? = some q) : q.1 < H1.size := (h k q hk).lt
end VXS
/-! ===== END ===== -/
/-! ===== BEGIN methods with a table of their own: called by a name, returning or throwing ===== -/
section VXH
/-! vx_backW, vx_callVX, vx_callSX, vx_callVW, vx_runVW, vx_runVX, vx_runSX, vx_ofWH follow the same proofs as their sisters above (Free/Laws.lean, Shelf42/LK1.lean); vx_outP calls Shelf42/NT130.lean (outThrough). -/
section
variable {l : Launch} {R : Room} {p : Program} {e : Env} {below : List Frame} {s : State} {sargs : Array Value} {y : MethodName} {len W9 : Nat}
theorem vx_backW {ws : List Cond} {rm : Room} {Pc : Array Value → State → Prop} {Qc : Array Value → State → Outcome → State → Prop} {XC : String → State → State → Prop} {mc ms : Nat} {free : Addr → Prop} {bytes : ByteArray} {maxL : Nat} {ret : Option FieldType} {hh : List (Nat × Nat × Nat × Nat)}
    (hM : vx_Met l y ws rm Pc Qc XC mc ms free) (hblind : FrameBlind Pc) (hrc : rm.cells = mc) (hrs : rm.slots = ms)
    (hframes : rm.frames + 1 ≤ R.frames) (hlocals : W9 + (maxL + 11) + rm.locals ≤ R.locals)
    (hws : ∀ w ∈ ws, ∀ a' U, s.WarmedH U.vm → w.before a' U = true) (hcode : Cond.codeWith y bytes maxL ret hh ∈ ws) (hinit : ∀ a' U, s.WarmedH U.vm → (Cond.initialized y.cls).before a' U = true) :
    vx_Back l R p e below s sargs y len W9 (PreOf R mc ms Pc) (PostOf Qc mc ms free) (vx_Post XC mc ms free) := by
  intro m meth c A g ig mk a X hg hsize hdg hW hn hp
  have h1 : (headSpec ws rm).pre.before a A.U = true := atoms_intro fun w hw => hws w hw _ _ X.warmed
  have h2 : (Cond.codeWith y bytes maxL ret hh).before a A.U = true := hws _ hcode _ _ X.warmed
  have h3 : (Cond.initialized y.cls).before a A.U = true := hinit _ _ X.warmed
  have h4 : A.cells + (headSpec ws rm).room.cells ≤ R.cells := by rw [show (headSpec ws rm).room.cells = mc from hrc]; exact hp.1
  have h5 : A.slots + (headSpec ws rm).room.slots ≤ R.slots := by rw [show (headSpec ws rm).room.slots = ms from hrs]; exact hp.2.1
  have hPc : Pc a (A.U.calling g mk a) := hblind _ _ _ _ hp.2.2
  obtain ⟨U, Ls, c0, s0⟩ := A
  dsimp only [Pt.U, Pt.locs, Pt.cells, Pt.slots] at h1 h2 h3 h4 h5 X hn hPc ⊢
  obtain ⟨m9, methY, cY, hn9, hmY, hcY, -, hlY, -⟩ := Cond.codeWith_spec h2
  cases Option.some.inj (hn9.symm.trans hn)
  obtain ⟨kY, hkY, -⟩ := className_of_methodNamed hn
  have hinitY : kY.init = .initialized := Cond.initialized_spec (findClass_of_methodNamed hn) hkY h3
  have h : At U g.method c below := by rw [hg]; exact X.here
  have hlocals9 : W9 + (maxL + 11) + (headSpec ws rm).room.locals ≤ R.locals := hlocals
  have happ : (headSpec ws rm).appliesLoose y e.platform (U.calling g mk a) = true :=
    Spec.appliesLoose_calling (g := g) h hdg hn hkY hinitY
      (X.room_calling (g := g) (R' := (headSpec ws rm).room) hsize hmY hcY hframes (by rw [hlY]; omega) h4 h5) h1
  obtain ⟨mid, hmid⟩ := h.above
  have hfr : (U.setTop g).frames = (.java g :: mid) ++ below := by rw [State.frames_setTop' g h.top, hmid]; rfl
  obtain ⟨o, s₂, hsteps, -, hend, hq⟩ := Steps.callFree hM p X.admits X.cas X.clock (acts := []) hfr happ hPc trivial
  have hq' : vx_Q Qc XC mc ms free a (U.calling g mk a) o s₂ := hq
  rw [State.frames_setTop' g h.top] at hend
  obtain ⟨g₀, hg0⟩ := Option.isSome_iff_exists.mp h.top
  obtain ⟨r, hr⟩ := State.topJava?_eq_some.mp hg0
  have hr' : (({ U with heap := s₂.heap, slotsUsed := s₂.slotsUsed } : State).setVm s₂.vm).frames = .java g₀ :: r := hr
  rcases hq' with ⟨hqc, L, hfe, hL⟩ | ⟨q, rfl, E, ce, L, hx, hce, hcv, hcl, hW₂, hsm, hL⟩
  · obtain ⟨⟨v, rfl⟩, hW₂, e2, q2, q3, q4, q5, q6⟩ := id hfe
    have e3 : s₂ = ({ (U.calling g mk a).setFrames s₂.frames with heap := s₂.heap, slotsUsed := s₂.slotsUsed } : State).setVm s₂.vm := by
      have : s₂ = ({ s₂ with vm := (U.calling g mk a).vm } : State).setVm s₂.vm := rfl
      rw [e2] at this
      exact this
    obtain ⟨c₂, i₂, len₂, hc₂, hd₂, hf₂⟩ := hend
    have hW' : U.WarmedH s₂.vm := hW₂
    have hcc : c₂ = c := by
      have h1 : s₂.code? g.method = U.code? g.method := by
        rw [State.code?_eq, State.code?_eq, hW'.alike.method?]
      exact Option.some.inj (hc₂.symm.trans (h1.trans h.code))
    subst hcc
    have hlen : len₂ = len := by rw [hdg] at hd₂; cases hd₂; rfl
    subst hlen
    have hs₂ : s₂ = (({ U with heap := s₂.heap, slotsUsed := s₂.slotsUsed } : State).setVm s₂.vm).setTop { g with pc := g.pc + len₂, stack := v.toList ++ g.stack } := by
      refine e3.trans ?_
      rw [hf₂, State.calling_eq h.top, State.setFrames_setFrames, State.setTop_of_frames _ hr', hr]
      rfl
    have hsame : U.sameButNew ({ U with heap := s₂.heap, slotsUsed := s₂.slotsUsed } : State) L mc ms := by
      refine ⟨?_, q2, q3, q4, q5, q6⟩
      obtain ⟨t, ht, -⟩ := State.frames_cons hr
      show ({ U with heap := s₂.heap, slotsUsed := s₂.slotsUsed } : State) = { U.setFrames U.frames with heap := s₂.heap, slotsUsed := s₂.slotsUsed }
      rw [State.setFrames_self ht]
    subst hg
    refine Or.inl ⟨v, ⟨(({ U with heap := s₂.heap, slotsUsed := s₂.slotsUsed } : State).setVm s₂.vm), Ls ++ L, c0 + mc, s0 + ms⟩,
      ⟨X.admits, X.cas, X.clock, X.frames, X.room, X.hears, X.method, X.code, (X.here.setHeapUsed s₂.heap s₂.slotsUsed).setVm hW'.alike, X.tail, State.WarmedH.trans X.warmed hW', X.limits, X.bytes, X.same.trans (hsame.setVm s.vm)⟩,
      ⟨g, mk, s₂, L, rfl, rfl, hqc, rfl, hL, rfl, rfl⟩, ?_⟩
    show Steps p.tables e below _ ((({ U with heap := s₂.heap, slotsUsed := s₂.slotsUsed } : State).setVm s₂.vm).setTop { g with pc := g.pc + len₂, stack := v.toList ++ g.stack })
    rw [← hs₂]
    exact hsteps
  · obtain ⟨e2, q2, q3, q4, q5, q6⟩ := id hsm
    have e3 : s₂ = ({ (U.calling g mk a).setFrames s₂.frames with heap := s₂.heap, slotsUsed := s₂.slotsUsed } : State).setVm s₂.vm := by
      have : s₂ = ({ s₂ with vm := (U.calling g mk a).vm } : State).setVm s₂.vm := rfl
      rw [e2] at this
      exact this
    have hf₂ : s₂.frames = .throwing q :: .java g :: U.frames.tail := hend
    have hW' : U.WarmedH s₂.vm := hW₂
    have hs₂ : s₂ = ((({ U with heap := s₂.heap, slotsUsed := s₂.slotsUsed } : State).setVm s₂.vm).setTop g).pushFrame (.throwing q) := by
      refine e3.trans ?_
      rw [hf₂, State.calling_eq h.top, State.setFrames_setFrames, State.pushFrame, State.frames_setTop _ hr', State.setTop_of_frames _ hr', State.setFrames_setFrames, hr]
      rfl
    have hsame : U.sameButNew ({ U with heap := s₂.heap, slotsUsed := s₂.slotsUsed } : State) L mc ms := by
      refine ⟨?_, q2, q3, q4, q5, q6⟩
      obtain ⟨t, ht, -⟩ := State.frames_cons hr
      show ({ U with heap := s₂.heap, slotsUsed := s₂.slotsUsed } : State) = { U.setFrames U.frames with heap := s₂.heap, slotsUsed := s₂.slotsUsed }
      rw [State.setFrames_self ht]
    subst hg
    refine Or.inr ⟨q, ⟨(({ U with heap := s₂.heap, slotsUsed := s₂.slotsUsed } : State).setVm s₂.vm), Ls ++ L, c0 + mc, s0 + ms⟩,
      ⟨X.admits, X.cas, X.clock, X.frames, X.room, X.hears, X.method, X.code, (X.here.setHeapUsed s₂.heap s₂.slotsUsed).setVm hW'.alike, X.tail, State.WarmedH.trans X.warmed hW', X.limits, X.bytes, X.same.trans (hsame.setVm s.vm)⟩,
      ⟨g, mk, s₂, L, E, ce, rfl, rfl, hx, hce, hcv, hcl, rfl, hL, rfl, rfl⟩, ?_⟩
    show Steps p.tables e below _ (((({ U with heap := s₂.heap, slotsUsed := s₂.slotsUsed } : State).setVm s₂.vm).setTop g).pushFrame (.throwing q))
    rw [← hs₂]
    exact hsteps
end
variable {p : Program} {l : Launch} {e : Env} {R : Room} {s : State} {m : MethodId} {args : Array Value} {below : List Frame} {meth : Method} {c : Code} {T : State} {H : Heap} {locs : List Loc} {cells slots : Nat}
theorem vx_callVX (X : Stand p l e R s m args below meth c T locs cells slots) (hexec : p.tables.exec = Jvm.exec) {own C : String} {index : Nat} {y : MethodName} {bytes : ByteArray} {maxL : Nat} {ret : Option FieldType} {hh : List (Nat × Nat × Nat × Nat)}
    (hown : s.vm.findClass own = some m.cls) (hlink : (Cond.methodLink own index y).before args s = true) (hinst : (Cond.instanceMethod y).before args s = true) (hsel : (Cond.selects C y y).before args s = true)
    (hcode : (Cond.codeWith y bytes maxL ret hh).before args s = true) (hy : y.cls ≠ "java/lang/invoke/MethodHandle" ∧ y.cls ≠ "java/lang/invoke/VarHandle")
    {W9 : Nat} {Pre : Pt → Array Value → Prop} {Post : Pt → Array Value → Option Value → Pt → Prop} {PostX : Pt → Array Value → Addr → Pt → Prop} (hK : vx_Back l R p e below s args y 3 W9 Pre Post PostX)
    {b : Addr} {cellB : Cell} (hcell : T.heap[b]? = some cellB) (hobj : cellB.vm.isStatics = false) (hcls : s.vm.findClass C = some cellB.cls)
    {g : JFrame} (hg : g.method = m) (hsize : g.locals.size = c.maxLocals) {argsL rest : List Value} (hlen : ∀ sig, parseMethodDescriptor y.desc = some sig → argsL.length = sig.parameters.length)
    (hstack : g.stack = argsL.reverse ++ .ref b :: rest) (hW : 2 * g.monitorRoom + (rest.map fun v => v.category).sum ≤ W9) (hdg : decode c.code g.pc = .ok (.invokevirtual index, 3))
    (hpre : ∀ vm₁, s.WarmedH vm₁ → Pre ⟨T.setVm vm₁, locs, cells, slots⟩ (Value.ref b :: argsL).toArray) :
    (∃ (v : Option Value) (vm₁ : Vm) (B : Pt), s.WarmedH vm₁ ∧ Stand p l e R s m args below meth c B.U B.locs B.cells B.slots ∧ Post ⟨T.setVm vm₁, locs, cells, slots⟩ (Value.ref b :: argsL).toArray v B ∧
      ∀ target, Steps p.tables e below (B.U.setTop { g with pc := g.pc + 3, stack := v.toList ++ rest }) target → Steps p.tables e below (T.setTop g) target) ∨
    (∃ (q : Addr) (vm₁ : Vm) (B : Pt), s.WarmedH vm₁ ∧ Stand p l e R s m args below meth c B.U B.locs B.cells B.slots ∧ PostX ⟨T.setVm vm₁, locs, cells, slots⟩ (Value.ref b :: argsL).toArray q B ∧
      Steps p.tables e below (T.setTop g) ((B.U.setTop { g with stack := rest }).pushFrame (.throwing q))) := by
  obtain ⟨mk, methM, hnamed, hmethM, hstM, habM⟩ := Cond.instanceMethod_spec hinst
  obtain ⟨m8, methM', cM, hn8, hmethM', -, -, -, -, -, -, hsigM⟩ := Cond.codeWith_spec hcode
  cases Option.some.inj (hn8.symm.trans hnamed)
  cases hmethM.symm.trans hmethM'
  obtain ⟨c2, r2, m2, q1, q2, q3, q4, kP, hkP, hkPi⟩ := Cond.selects_spec hsel
  cases hcls.symm.trans q1
  cases (State.methodFound?_of_named hnamed hy).symm.trans q2
  cases hnamed.symm.trans q3
  have hselP : selectMethod e.platform s.vm cellB.cls mk = .method mk := by rw [Launch.admits_selectMethod X.admits]; exact q4
  obtain ⟨vm₁, X₁, hstep₁⟩ := X.invokevirtual hexec hown hlink hnamed hmethM hstM hkP hkPi hy (a := b) (cell := cellB) hcell
    (fun z h => by rw [h] at hobj; cases hobj) hselP hmethM habM hkP hkPi (g := g) hg (argsL := argsL) (rest := rest) (hlen _ hsigM) hstack hdg
  rcases hK m meth c ⟨T.setVm vm₁, locs, cells, slots⟩ { g with stack := rest } (.invokevirtual index) mk (Value.ref b :: argsL).toArray X₁ hg hsize hdg hW (X₁.named hnamed) (hpre vm₁ X₁.warmed) with ⟨v, B, X', hpost, hsteps⟩ | ⟨q, B, X', hpost, hsteps⟩
  · exact Or.inl ⟨v, vm₁, B, X₁.warmed, X', hpost, fun target h => hstep₁ _ fun acts => by rw [doInvoke_state]; exact hsteps.trans h⟩
  · exact Or.inr ⟨q, vm₁, B, X₁.warmed, X', hpost, hstep₁ _ fun acts => by rw [doInvoke_state]; exact hsteps⟩
theorem vx_callSX (X : Stand p l e R s m args below meth c T locs cells slots) (hexec : p.tables.exec = Jvm.exec) {own : String} {index : Nat} {y : MethodName} {bytes : ByteArray} {maxL : Nat} {ret : Option FieldType} {hh : List (Nat × Nat × Nat × Nat)}
    (hown : s.vm.findClass own = some m.cls) (hlink : (Cond.methodLink own index y).before args s = true) (hstat : (Cond.static y).before args s = true) (hinit : (Cond.initialized y.cls).before args s = true)
    (hcode : (Cond.codeWith y bytes maxL ret hh).before args s = true) (hy : y.cls ≠ "java/lang/invoke/MethodHandle" ∧ y.cls ≠ "java/lang/invoke/VarHandle")
    {W9 : Nat} {Pre : Pt → Array Value → Prop} {Post : Pt → Array Value → Option Value → Pt → Prop} {PostX : Pt → Array Value → Addr → Pt → Prop} (hK : vx_Back l R p e below s args y 3 W9 Pre Post PostX)
    {g : JFrame} (hg : g.method = m) (hsize : g.locals.size = c.maxLocals) {argsL rest : List Value} (hlen : ∀ sig, parseMethodDescriptor y.desc = some sig → argsL.length = sig.parameters.length)
    (hstack : g.stack = argsL.reverse ++ rest) (hW : 2 * g.monitorRoom + (rest.map fun v => v.category).sum ≤ W9) (hdg : decode c.code g.pc = .ok (.invokestatic index, 3))
    (hpre : ∀ vm₁, s.WarmedH vm₁ → Pre ⟨T.setVm vm₁, locs, cells, slots⟩ argsL.toArray) :
    (∃ (v : Option Value) (vm₁ : Vm) (B : Pt), s.WarmedH vm₁ ∧ Stand p l e R s m args below meth c B.U B.locs B.cells B.slots ∧ Post ⟨T.setVm vm₁, locs, cells, slots⟩ argsL.toArray v B ∧
      ∀ target, Steps p.tables e below (B.U.setTop { g with pc := g.pc + 3, stack := v.toList ++ rest }) target → Steps p.tables e below (T.setTop g) target) ∨
    (∃ (q : Addr) (vm₁ : Vm) (B : Pt), s.WarmedH vm₁ ∧ Stand p l e R s m args below meth c B.U B.locs B.cells B.slots ∧ PostX ⟨T.setVm vm₁, locs, cells, slots⟩ argsL.toArray q B ∧
      Steps p.tables e below (T.setTop g) ((B.U.setTop { g with stack := rest }).pushFrame (.throwing q))) := by
  obtain ⟨mk, methM, cM, hnamed, hmethM, -, -, -, -, -, -, hsigM⟩ := Cond.codeWith_spec hcode
  have hstatic : methM.isStatic = true := Cond.static_spec hnamed hmethM hstat
  obtain ⟨kP, hkP, -⟩ := className_of_methodNamed hnamed
  have hinitP : kP.init = .initialized := Cond.initialized_spec (findClass_of_methodNamed hnamed) hkP hinit
  obtain ⟨vm₁, X₁, hstep₁⟩ := X.invokestatic hexec hown hlink hnamed hmethM hstatic hkP hinitP hy (g := g) hg (argsL := argsL) (rest := rest) (hlen _ hsigM) hstack hdg
  rcases hK m meth c ⟨T.setVm vm₁, locs, cells, slots⟩ { g with stack := rest } (.invokestatic index) mk argsL.toArray X₁ hg hsize hdg hW (X₁.named hnamed) (hpre vm₁ X₁.warmed) with ⟨v, B, X', hpost, hsteps⟩ | ⟨q, B, X', hpost, hsteps⟩
  · exact Or.inl ⟨v, vm₁, B, X₁.warmed, X', hpost, fun target h => hstep₁ _ fun acts => by rw [doInvoke_state]; exact hsteps.trans h⟩
  · exact Or.inr ⟨q, vm₁, B, X₁.warmed, X', hpost, hstep₁ _ fun acts => by rw [doInvoke_state]; exact hsteps⟩
theorem vx_callVW (X : Stand p l e R s m args below meth c T locs cells slots) (hexec : p.tables.exec = Jvm.exec) {own C : String} {index : Nat} {y : MethodName} {bytes : ByteArray} {maxL : Nat} {ret : Option FieldType} {hh : List (Nat × Nat × Nat × Nat)}
    (hown : s.vm.findClass own = some m.cls) (hlink : (Cond.methodLink own index y).before args s = true) (hinst : (Cond.instanceMethod y).before args s = true) (hsel : (Cond.selects C y y).before args s = true)
    (hcode : (Cond.codeWith y bytes maxL ret hh).before args s = true) (hy : y.cls ≠ "java/lang/invoke/MethodHandle" ∧ y.cls ≠ "java/lang/invoke/VarHandle")
    {W9 : Nat} {Pre : Pt → Array Value → Prop} {Post : Pt → Array Value → Option Value → Pt → Prop} (hK : Back l R p e below s args y 3 W9 Pre Post)
    {b : Addr} {cellB : Cell} (hcell : T.heap[b]? = some cellB) (hobj : cellB.vm.isStatics = false) (hcls : s.vm.findClass C = some cellB.cls)
    {g : JFrame} (hg : g.method = m) (hsize : g.locals.size = c.maxLocals) {argsL rest : List Value} (hlen : ∀ sig, parseMethodDescriptor y.desc = some sig → argsL.length = sig.parameters.length)
    (hstack : g.stack = argsL.reverse ++ .ref b :: rest) (hW : 2 * g.monitorRoom + (rest.map fun v => v.category).sum ≤ W9) (hdg : decode c.code g.pc = .ok (.invokevirtual index, 3))
    (hpre : ∀ vm₁, s.WarmedH vm₁ → Pre ⟨T.setVm vm₁, locs, cells, slots⟩ (Value.ref b :: argsL).toArray) :
    ∃ (v : Option Value) (vm₁ : Vm) (B : Pt), s.WarmedH vm₁ ∧ Stand p l e R s m args below meth c B.U B.locs B.cells B.slots ∧ Post ⟨T.setVm vm₁, locs, cells, slots⟩ (Value.ref b :: argsL).toArray v B ∧
      ∀ target, Steps p.tables e below (B.U.setTop { g with pc := g.pc + 3, stack := v.toList ++ rest }) target → Steps p.tables e below (T.setTop g) target := by
  obtain ⟨mk, methM, hnamed, hmethM, hstM, habM⟩ := Cond.instanceMethod_spec hinst
  obtain ⟨m8, methM', cM, hn8, hmethM', -, -, -, -, -, -, hsigM⟩ := Cond.codeWith_spec hcode
  cases Option.some.inj (hn8.symm.trans hnamed)
  cases hmethM.symm.trans hmethM'
  obtain ⟨c2, r2, m2, q1, q2, q3, q4, kP, hkP, hkPi⟩ := Cond.selects_spec hsel
  cases hcls.symm.trans q1
  cases (State.methodFound?_of_named hnamed hy).symm.trans q2
  cases hnamed.symm.trans q3
  have hselP : selectMethod e.platform s.vm cellB.cls mk = .method mk := by rw [Launch.admits_selectMethod X.admits]; exact q4
  obtain ⟨vm₁, X₁, hstep₁⟩ := X.invokevirtual hexec hown hlink hnamed hmethM hstM hkP hkPi hy (a := b) (cell := cellB) hcell
    (fun z h => by rw [h] at hobj; cases hobj) hselP hmethM habM hkP hkPi (g := g) hg (argsL := argsL) (rest := rest) (hlen _ hsigM) hstack hdg
  obtain ⟨v, B, X', hpost, hsteps⟩ := hK m meth c ⟨T.setVm vm₁, locs, cells, slots⟩ { g with stack := rest } (.invokevirtual index) mk (Value.ref b :: argsL).toArray X₁ hg hsize hdg hW (X₁.named hnamed) (hpre vm₁ X₁.warmed)
  exact ⟨v, vm₁, B, X₁.warmed, X', hpost, fun target h => hstep₁ _ fun acts => by rw [doInvoke_state]; exact hsteps.trans h⟩
abbrev vx_CVW (R : Room) (s : State) (args : Array Value) (own C : String) (index : Nat) (y : MethodName) (bytes : ByteArray) (maxL : Nat) (ret : Option FieldType) (hh : List (Nat × Nat × Nat × Nat)) (ws : List Cond) (rm : Room) (mc ms n : Nat) : Prop :=
  (rm.cells = mc ∧ rm.slots = ms ∧ rm.frames + 1 ≤ R.frames ∧ 8 + (maxL + 11) + rm.locals ≤ R.locals ∧ (∀ w ∈ ws, ∀ (a' : Array Value) (U : State), s.WarmedH U.vm → w.before a' U = true) ∧ Cond.codeWith y bytes maxL ret hh ∈ ws) ∧
  (Cond.codeWith y bytes maxL ret hh).before args s = true ∧ (Cond.initialized y.cls).before args s = true ∧ (y.cls ≠ "java/lang/invoke/MethodHandle" ∧ y.cls ≠ "java/lang/invoke/VarHandle") ∧
  (∀ sig, parseMethodDescriptor y.desc = some sig → n = sig.parameters.length) ∧ (Cond.methodLink own index y).before args s = true ∧ (Cond.instanceMethod y).before args s = true ∧ (Cond.selects C y y).before args s = true
theorem vx_cwVW {own C : String} {index maxL mc ms : Nat} {y : MethodName} {bytes : ByteArray} {ret : Option FieldType} {hh : List (Nat × Nat × Nat × Nat)} {Ts ws ws' : List Cond} {rm : Room} (n : Nat) (ht : ∀ w ∈ Ts, w.before args s = true) (hT : GoodIn Ts (wsV own index C y ws)) (hw : ws = Cond.codeWith y bytes maxL ret hh :: ws') (hrc : rm.cells = mc) (hrs : rm.slots = ms)
    (hd : y.cls = C ∧ y.cls ≠ "java/lang/invoke/MethodHandle" ∧ y.cls ≠ "java/lang/invoke/VarHandle" ∧ (parseMethodDescriptor y.desc).map (fun d => d.parameters.length) = some n) (hR : rm.frames + 1 ≤ R.frames ∧ 8 + (maxL + 11) + rm.locals ≤ R.locals) :
    vx_CVW R s args own C index y bytes maxL ret hh ws rm mc ms n := by
  obtain ⟨hC, hd⟩ := hd
  subst hC
  have ok : ∀ w ∈ wsV own index y.cls y ws, w.before args s = true := fun w h => ht w (hT w h).1
  have hG : GoodIn Ts ws := fun w h => hT w (by unfold wsV; exact List.mem_append_right _ h)
  have hc : Cond.codeWith y bytes maxL ret hh ∈ ws := by rw [hw]; exact List.mem_cons_self
  refine ⟨⟨hrc, hrs, hR.1, hR.2, pay_in ht hG, hc⟩, ht _ (hG _ hc).1, ok _ (by simp [wsV]), ⟨hd.1, hd.2.1⟩, fun sig h => ?_, ok _ (by simp [wsV]), ok _ (by simp [wsV]), ok _ (by simp [wsV])⟩
  have h2 := hd.2.2
  rw [h] at h2
  exact (Option.some.inj h2).symm
theorem vx_runVW {y : MethodName} {bytes cc : ByteArray} {maxL nL mc ms n index : Nat} {ret : Option FieldType} {hh : List (Nat × Nat × Nat × Nat)} {ws : List Cond} {rm : Room} {Pc : Array Value → State → Prop} {Qc : Array Value → State → Outcome → State → Prop} {free : Addr → Prop} {Ts : List Cond} {own C : String} {b : Addr} {As rest : List Value} {g : JFrame}
    (S : CallFix p m c cc nL s args Ts own) (hM : Met l y ws rm Pc Qc mc ms free) (cw : vx_CVW R s args own C index y bytes maxL ret hh ws rm mc ms n) (hp : PreV s H C b Pc As)
    (hg : g.method = m) (hn : As.length = n) (hsize : g.locals.size = nL) (hstack : g.stack = As.reverse ++ .ref b :: rest) (hW : 2 * g.monitorRoom + (rest.map fun v => v.category).sum ≤ 8) (hdg : decode cc g.pc = .ok (.invokevirtual index, 3)) (hf : cells + mc ≤ R.cells ∧ slots + ms ≤ R.slots) :
    va_Run p l e R s m args below meth c H locs cells slots mc ms g rest (Qc (Value.ref b :: As).toArray) free := by
  obtain ⟨⟨hrc, hrs, hfr, hlo, hws, hcw⟩, hcode, hini, hy, hlen, hl, hin, hse⟩ := cw
  have hK : Back l R p e below s args y 3 8 (PreOf R mc ms Pc) (PostOf Qc mc ms free) := va_backW (hh := hh) (bytes := bytes) (maxL := maxL) (ret := ret) hM hp.1 hrc hrs hfr hlo hws hcw (fun a' U hW => word_at hW (Or.inl (by first | rfl | simp [Cond.onTables, Cond.keeps, Cond.steady])) hini)
  obtain ⟨hx, hb, hml, ho, -⟩ := S
  obtain ⟨-, ⟨cellB, hcB, hoB, hclB⟩, hPc⟩ := hp
  intro T hT X
  obtain ⟨v, vm₁, ⟨U', l2, c2, s2⟩, hW₁, X', ⟨g', mk, t, L, e1, e2, hq, h1, hL, h2, h3⟩, st⟩ := vx_callVW X hx (C := C) (hh := hh) (bytes := bytes) (maxL := maxL) (ret := ret) ho hl hin hse hcode hy hK (by rw [hT]; exact hcB) hoB hclB hg (hsize.trans hml.symm) (argsL := As) (rest := rest) (fun sig h => hn.trans (hlen sig h)) hstack hW (by rw [hb]; exact hdg)
    (fun vm₁ hW₁ => ⟨hf.1, hf.2, hPc (T.setVm vm₁) hT hW₁⟩)
  dsimp only [Pt.U, Pt.locs, Pt.cells, Pt.slots] at X' e1 e2 h1 h2 h3 st
  subst h1; subst h2; subst h3
  exact ⟨v, (T.setVm vm₁).calling g' mk (Value.ref b :: As).toArray, t, U', L, hT, X', hL, e1, e2, hq, st⟩
section
variable {y : MethodName} {bytes cc : ByteArray} {maxL nL mc ms n index : Nat} {ret : Option FieldType} {ws : List Cond} {rm : Room} {Pc : Array Value → State → Prop} {Qc : Array Value → State → Outcome → State → Prop} {XC : String → State → State → Prop} {free : Addr → Prop} {Ts : List Cond} {own C : String} {b : Addr} {As rest : List Value} {g : JFrame}
theorem vx_runVX {hh : List (Nat × Nat × Nat × Nat)} (S : CallFix p m c cc nL s args Ts own) (hM : vx_Met l y ws rm Pc Qc XC mc ms free) (cw : vx_CVW R s args own C index y bytes maxL ret hh ws rm mc ms n) (hp : PreV s H C b Pc As)
    (hg : g.method = m) (hn : As.length = n) (hsize : g.locals.size = nL) (hstack : g.stack = As.reverse ++ .ref b :: rest) (hW : 2 * g.monitorRoom + (rest.map fun v => v.category).sum ≤ 8) (hdg : decode cc g.pc = .ok (.invokevirtual index, 3)) (hf : cells + mc ≤ R.cells ∧ slots + ms ≤ R.slots) :
    vx_Run p l e R s m args below meth c H locs cells slots mc ms g rest (Qc (Value.ref b :: As).toArray) XC free := by
  obtain ⟨⟨hrc, hrs, hfr, hlo, hws, hcw⟩, hcode, hini, hy, hlen, hl, hin, hse⟩ := cw
  have hK : vx_Back l R p e below s args y 3 8 (PreOf R mc ms Pc) (PostOf Qc mc ms free) (vx_Post XC mc ms free) := vx_backW (hh := hh) (bytes := bytes) (maxL := maxL) (ret := ret) hM hp.1 hrc hrs hfr hlo hws hcw (fun a' U hW => word_at hW (Or.inl (by first | rfl | simp [Cond.onTables, Cond.keeps, Cond.steady])) hini)
  obtain ⟨hx, hb, hml, ho, -⟩ := S
  obtain ⟨-, ⟨cellB, hcB, hoB, hclB⟩, hPc⟩ := hp
  intro T hT X
  rcases vx_callVX X hx (C := C) (hh := hh) (bytes := bytes) (maxL := maxL) (ret := ret) ho hl hin hse hcode hy hK (by rw [hT]; exact hcB) hoB hclB hg (hsize.trans hml.symm) (argsL := As) (rest := rest) (fun sig h => hn.trans (hlen sig h)) hstack hW (by rw [hb]; exact hdg)
    (fun vm₁ hW₁ => ⟨hf.1, hf.2, hPc (T.setVm vm₁) hT hW₁⟩) with ⟨v, vm₁, ⟨U', l2, c2, s2⟩, hW₁, X', ⟨g', mk, t, L, e1, e2, hq, h1, hL, h2, h3⟩, st⟩ | ⟨q, vm₁, ⟨U', l2, c2, s2⟩, hW₁, X', ⟨g', mk, t, L, E, ce, e1, e2, hq, hce, hcv, hcl, h1, hL, h2, h3⟩, st⟩
  · dsimp only [Pt.U, Pt.locs, Pt.cells, Pt.slots] at X' e1 e2 h1 h2 h3 st
    subst h1; subst h2; subst h3
    exact Or.inl ⟨v, (T.setVm vm₁).calling g' mk (Value.ref b :: As).toArray, t, U', L, hT, X', hL, e1, e2, hq, st⟩
  · dsimp only [Pt.U, Pt.locs, Pt.cells, Pt.slots] at X' e1 e2 h1 h2 h3 st hcl
    subst h1; subst h2; subst h3
    exact Or.inr ⟨q, (T.setVm vm₁).calling g' mk (Value.ref b :: As).toArray, t, U', L, E, ce, hT, X', hL, e1, e2, hq, hce, hcv, vx_cls hW₁ hcl, st⟩
theorem vx_runSX {hh : List (Nat × Nat × Nat × Nat)} (S : CallFix p m c cc nL s args Ts own) (hM : vx_Met l y ws rm Pc Qc XC mc ms free) (cw : vx_CSW R s args own index y bytes maxL ret hh ws rm mc ms n) (hp : PreS s H Pc As)
    (hg : g.method = m) (hn : As.length = n) (hsize : g.locals.size = nL) (hstack : g.stack = As.reverse ++ rest) (hW : 2 * g.monitorRoom + (rest.map fun v => v.category).sum ≤ 8) (hdg : decode cc g.pc = .ok (.invokestatic index, 3)) (hf : cells + mc ≤ R.cells ∧ slots + ms ≤ R.slots) :
    vx_Run p l e R s m args below meth c H locs cells slots mc ms g rest (Qc As.toArray) XC free := by
  obtain ⟨⟨hrc, hrs, hfr, hlo, hws, hcw⟩, hcode, hini, hy, hlen, hl, hstt⟩ := cw
  have hK : vx_Back l R p e below s args y 3 8 (PreOf R mc ms Pc) (PostOf Qc mc ms free) (vx_Post XC mc ms free) := vx_backW (hh := hh) (bytes := bytes) (maxL := maxL) (ret := ret) hM hp.1 hrc hrs hfr hlo hws hcw (fun a' U hW => word_at hW (Or.inl (by first | rfl | simp [Cond.onTables, Cond.keeps, Cond.steady])) hini)
  obtain ⟨hx, hb, hml, ho, -⟩ := S
  intro T hT X
  rcases vx_callSX X hx (hh := hh) (bytes := bytes) (maxL := maxL) (ret := ret) ho hl hstt hini hcode hy hK hg (hsize.trans hml.symm) (argsL := As) (rest := rest) (fun sig h => hn.trans (hlen sig h)) hstack hW (by rw [hb]; exact hdg)
    (fun vm₁ hW₁ => ⟨hf.1, hf.2, hp.2 (T.setVm vm₁) hT hW₁⟩) with ⟨v, vm₁, ⟨U', l2, c2, s2⟩, hW₁, X', ⟨g', mk, t, L, e1, e2, hq, h1, hL, h2, h3⟩, st⟩ | ⟨q, vm₁, ⟨U', l2, c2, s2⟩, hW₁, X', ⟨g', mk, t, L, E, ce, e1, e2, hq, hce, hcv, hcl, h1, hL, h2, h3⟩, st⟩
  · dsimp only [Pt.U, Pt.locs, Pt.cells, Pt.slots] at X' e1 e2 h1 h2 h3 st
    subst h1; subst h2; subst h3
    exact Or.inl ⟨v, (T.setVm vm₁).calling g' mk As.toArray, t, U', L, hT, X', hL, e1, e2, hq, st⟩
  · dsimp only [Pt.U, Pt.locs, Pt.cells, Pt.slots] at X' e1 e2 h1 h2 h3 st hcl
    subst h1; subst h2; subst h3
    exact Or.inr ⟨q, (T.setVm vm₁).calling g' mk As.toArray, t, U', L, E, ce, hT, X', hL, e1, e2, hq, hce, hcv, vx_cls hW₁ hcl, st⟩
end
end VXH
theorem vx_ofWH {l : Launch} {y : MethodName} {ws ws' : List Cond} {rm : Room} {Pc : Array Value → State → Prop} {Qc : Array Value → State → Outcome → State → Prop} {XC : String → State → State → Prop} {mc ms : Nat} {free : Addr → Prop} {cc : ByteArray} {maxL : Nat} {ret : Option FieldType} {hh : List (Nat × Nat × Nat × Nat)}
    (hy : plainName y.cls = true) (hw : ws = Cond.codeWith y cc maxL ret hh :: ws')
    (body : ∀ p e s m args below meth c s₁, BodyLoose p l y (headSpec ws rm) cc maxL ret e s m args below meth c s₁ → c.maxLocals = maxL → Pc args s →
      W p l e (headSpec ws rm).room s m args below meth c s.heap [] 0 0 (vx_MQ below Qc XC args s mc ms free) (entryFrame m args maxL)) : vx_Met l y ws rm Pc Qc XC mc ms free := by
  refine MetFree.of_bodyS (code := cc) (maxLocals := maxL) (ret := ret) hy ?_ ?_
  · intro args s m h hn
    obtain ⟨m9, meth, c, hn9, h1, h2, h3, h4, -, h5, h6, -⟩ := Cond.codeWith_spec (atoms_spec (ws := ws) h _ (by rw [hw]; exact List.mem_cons_self))
    cases hn.symm.trans hn9
    exact ⟨meth, c, h1, h2, h3, h4, h5, h6⟩
  · intro p e s m args below meth c s₁ B hml hP _
    have hh0 : s₁.heap = s.heap := by rw [B.state]; rfl
    obtain ⟨t, a1, o, b1, b2, b3⟩ := body p e s m args below meth c s₁ B hml hP s₁ hh0 (Stand.of_body B)
    exact ⟨t, o, a1, b1, b2, b3⟩
/-! ===== END ===== -/

/-! ===== BEGIN what the machine throws by itself, no traces kept ===== -/
section VXM
set_option maxHeartbeats 1000000 in
/-- the machine throws cls with the message text, no traces kept: from its note over the frame g to 'throwing' over the same frame (follows the proofs of Stand.vmThrowsMessage, Shelf/KitTracedVmS.lean, and Stand.throwsMessageColdBareV, StandMessageColdV.lean, without the step out of the frame) -/
theorem vx_vmAt {p : Program} {l : Launch} {e : Env} {R : Room} {s : State} {m₀ : MethodId} {args : Array Value} {below : List Frame} {meth : Method} {c : Code} {W : State} {locs : List Loc} {cells slots : Nat}
    (X : Stand p l e R s m₀ args below meth c W locs cells slots) (hexec : p.tables.exec = Jvm.exec) (htr : e.platform.stackTraces = false) {cls : String} {names : List String} {text : String}
    (hcls : Bundle.fit cls = true) (hnames : ∀ n ∈ names, Bundle.fit n = true) (hsoe : (cls == "java/lang/StackOverflowError") = false) (hoom : (cls == "java/lang/OutOfMemoryError") = false)
    (h : ∀ a ∈ Bundle.messageArmAtoms cls names, a.before args s = true)
    (hlocs : ∀ x ∈ locs, ∀ cell, s.heap[x.base]? = some cell → cell.vm.isStatics = false)
    (htext : (text == notModelled) = false) (hlimit : ¬ (stringBytes (stringToUtf16 text)).size > e.platform.arrayLengthLimit) (hheap : ¬ (stringBytes (stringToUtf16 text)).size * componentBytes .byte > e.platform.maxHeapBytes)
    {g : JFrame} (hg : g.method = m₀) (hsize : g.locals.size = c.maxLocals)
    (hRframes : names.length + 4 < R.frames) (hRlocals : 2 * g.monitorRoom + (g.stack.map fun v => v.category).sum + 10240 ≤ R.locals) (hshort : 13 * names.length + 55 ≤ 10240)
    (hRcells : cells + 3 ≤ R.cells) (hRslots : slots + ((stringBytes (stringToUtf16 text)).size + 4 + 6) ≤ R.slots) (hlocks : meth.locks = false) :
    ∃ (S : State) (q : Addr) (ce : Cell), (∀ target, Steps p.tables e below ((S.setTop g).pushFrame (.throwing q)) target → Steps p.tables e below ((W.setTop g).pushFrame (.throwNew cls (some text) none)) target) ∧
      Stand p l e R s m₀ args below meth c S locs (cells + 3) (slots + ((stringBytes (stringToUtf16 text)).size + 4 + 6)) ∧ S.heap[q]? = some ce ∧ s.vm.findClass cls = some ce.cls ∧ ce.vm = .none := by
  have howns : e.platform.frameOwnsMonitors = true := by rw [X.admits.platform]
  have hfin : e.platform.finalization = false := by rw [X.admits.platform]
  have hpl : e.platform.magicAccessors = ({} : Platform).magicAccessors := by rw [X.admits.platform]
  have a : ∀ x, x ∈ Bundle.messageArmAtoms cls names → x.holds args s none s [] = true := fun x hx => h x hx
  obtain ⟨T, Z0, L, -, Y⟩ := ThrowableC.of_atoms (args := args) howns hfin hpl (fun x hx => h x (by simp [Bundle.messageArmAtoms, hx]))
  obtain ⟨Z, M, LZ, LM, hnZ⟩ := Init0T.ofS_atoms (args := args) hpl L Y (fun x hx => h x (by simp [Bundle.messageArmAtoms, hx]))
  obtain ⟨P1, Ps, hlen, L1, hL, hP1m, hlink1, hlink⟩ := Bundle.chainS (args := args) hpl hnZ names cls hcls hnames (fun x hx => h x (by simp [Bundle.messageArmAtoms, hx]))
  obtain ⟨Zs, LZs, hn4, hfitv, hfitc⟩ := StringT.of_atoms (args := args) (fun x hx => h x (by simp [Bundle.messageArmAtoms, hx]))
  have hfound : s.vm.findClass cls = some P1.m.cls := findClass_of_methodNamed hP1m
  obtain ⟨c1, kX, hc1, hk, hord, -, -, hn6⟩ := Cond.instantiable_spec (a (.instantiable cls 6) (by simp [Bundle.messageArmAtoms]))
  cases Option.some.inj (hc1.symm.trans hfound)
  have hinit := Cond.initialized_spec hfound hk (a (.initialized cls) (by simp [Bundle.messageArmAtoms]))
  have hctor : kX.findMethod "<init>" "(Ljava/lang/String;)V" = some P1.m.idx := findMethod_of_methodNamed hP1m hk
  have hsel0 : selectMethod e.platform s.vm P1.m.cls T.fill0 = .method T.fill0 := by
    obtain ⟨c2, r2, m2, q1, q2, q3, q4, -⟩ := Cond.selects_spec (a (.selects cls Bundle.tFill0 Bundle.tFill0) (by simp [Bundle.messageArmAtoms]))
    cases Option.some.inj (q1.symm.trans hfound)
    cases Option.some.inj (q2.symm.trans (State.methodFound?_of_named Y.fill0 (by decide)))
    cases Option.some.inj (q3.symm.trans Y.fill0)
    rw [Launch.admits_selectMethod X.admits]; exact q4
  have hselF : selectMethod e.platform s.vm P1.m.cls T.fill = .method T.fill := by
    obtain ⟨c2, r2, m2, q1, q2, q3, q4, -⟩ := Cond.selects_spec (a (.selects cls Bundle.tFill Bundle.tFill) (by simp [Bundle.messageArmAtoms]))
    cases Option.some.inj (q1.symm.trans hfound)
    cases Option.some.inj (q2.symm.trans (State.methodFound?_of_named Y.fill (by decide)))
    cases Option.some.inj (q3.symm.trans Y.fill)
    rw [Launch.admits_selectMethod X.admits]; exact q4
  obtain ⟨cellS0, hcS0, hiss⟩ := Y.statics
  obtain ⟨u0, hu0⟩ := Cond.staticRefV Y.unassigned L.unassignedStatic L.statics hcS0 hiss (a (.isRef (.static Bundle.tN "UNASSIGNED_STACK" Bundle.steD)) (by simp [Bundle.messageArmAtoms]))
  obtain ⟨sen, hsen⟩ := Cond.staticRefV Y.sentinel L.sentinelStatic L.statics hcS0 hiss (a (.isRef (.static Bundle.tN "SUPPRESSED_SENTINEL" Bundle.listD)) (by simp [Bundle.messageArmAtoms]))
  obtain ⟨ci198, i198, fB, hk198, hg198, ha198, hsB, -, hnB, htB, hffB⟩ := Cond.ownField (t := .object "java/lang/Object") Y.found L.cls (by decide +kernel) (a (.fieldLink Bundle.tN 198 Bundle.tN "backtrace" "Ljava/lang/Object;") (by simp [Bundle.messageArmAtoms])) (a (.lays Bundle.tN Bundle.tN "backtrace" "Ljava/lang/Object;") (by simp [Bundle.messageArmAtoms])) e.platform hpl
  obtain ⟨cellS, hcS', heS, -, hkeep⟩ := X.same.2.2.2.2.2 T.aS cellS0 hcS0
  have hcellS : W.heap[T.aS]? = some cellS := hcS'
  have hout' : ∀ i, (⟨T.aS, i⟩ : Loc) ∉ locs := fun i hmem => by
    have := hlocs _ hmem cellS0 hcS0
    rw [hiss] at this; cases this
  have hknownS : cellS.vm ≠ .unknown := by
    rw [heS]; intro hu
    rw [show cellS0.vm = .unknown from hu] at hiss
    cases hiss
  have hvU : cellS.slots[T.fUnassigned.slot]? = some u0.v := by rw [hkeep _ (hout' _)]; exact hu0
  have hvSen : cellS.slots[T.fSentinel.slot]? = some sen.v := by rw [hkeep _ (hout' _)]; exact hsen
  obtain ⟨iM, hffM⟩ := Y.msg
  obtain ⟨tyC, dC, hdC, hdnC⟩ := Cond.laysAt hfound hk Y.cause (a (.lays cls Bundle.tN "cause" "Ljava/lang/Throwable;") (by simp [Bundle.messageArmAtoms]))
  obtain ⟨tyS, dS, hdS, hdnS⟩ := Cond.laysAt hfound hk Y.stack (a (.lays cls Bundle.tN "stackTrace" Bundle.steD) (by simp [Bundle.messageArmAtoms]))
  obtain ⟨tyP, dP, hdP, hdnP⟩ := Cond.laysAt hfound hk Y.supp (a (.lays cls Bundle.tN "suppressedExceptions" Bundle.listD) (by simp [Bundle.messageArmAtoms]))
  obtain ⟨tyM, dM, hdM, hdnM⟩ := Cond.laysAt hfound hk hffM (a (.lays cls Bundle.tN "detailMessage" "Ljava/lang/String;") (by simp [Bundle.messageArmAtoms]))
  obtain ⟨tyB, dB, hdB, hdnB⟩ := Cond.laysAt hfound hk hffB (a (.lays cls Bundle.tN "backtrace" "Ljava/lang/Object;") (by simp [Bundle.messageArmAtoms]))
  have bC := Cond.laysApart hdB hdC hdnB hdnC (by rw [hnB, Y.causeName]; decide)
  have bS := Cond.laysApart hdB hdS hdnB hdnS (by rw [hnB, Y.stackName]; decide)
  have bP := Cond.laysApart hdB hdP hdnB hdnP (by rw [hnB, Y.suppName]; decide)
  have hbk : ((preparedCellV T.toThrowableT (freshCell P1.m.cls kX) (W.heap.size + 2) u0 sen).withEntry W.cur).slots[fB.slot]? = some .null := by
    have := fresh_default (c := P1.m.cls) tyB
    rw [htB] at this
    simpa [preparedCellV, Cell.setSlot, Cell.withEntry, Array.getElem?_setIfInBounds, bC, bS, bP, bC.symm, bS.symm, bP.symm, defaultValue] using this
  have tkC := Takes.of_laid (v := .ref (W.heap.size + 2)) hk hord tyC (by rw [Y.causeType]; rfl)
  have tkS := Takes.of_laid (v := u0.v) hk hord tyS (by rw [Y.stackType]; exact fits_refV_array _ u0)
  have tkP := Takes.of_laid (v := sen.v) hk hord tyP (by rw [Y.suppType]; exact fits_refV_object _ sen)
  have tkM := Takes.of_laid (v := .ref (W.heap.size + 1)) hk hord tyM (by rw [Y.msgType]; rfl)
  have hskip : SkipFacts T e.platform s (fun u => u) u0 ((preparedCellV T.toThrowableT (freshCell P1.m.cls kX) (W.heap.size + 2) u0 sen).withEntry W.cur) := ⟨{ ci198 := ci198, i198 := i198, fBack := fB }, ⟨hk198, hg198, ha198, hsB⟩, hbk, fun _ _ => rfl⟩
  have h0 : At W g.method c below := by rw [hg]; exact X.here
  obtain ⟨hbeyond, hfreeW⟩ := X.vmMayThrow hsize (.throwNew cls (some text) none) (fun f hf => by cases hf) rfl hRlocals
  have hfr' : W.frames.length + Ps.length + 4 < (e.platform.stackLimits W.me).1 := by have := X.framesAbove hRframes; omega
  have hwd' : (stackUse (.java g :: W.frames.tail)).2 + 13 * Ps.length + 55 ≤ (e.platform.stackLimits W.me).2 := by have := X.stackAbove hsize (K := 13 * Ps.length + 55) (by omega); omega
  have hslots : W.slotsUsed + (stringBytes (stringToUtf16 text)).size + Zs.kS.instanceTypes.size + kX.instanceTypes.size ≤ e.platform.maxSlots := by
    have := X.slotsAbove hRslots
    rw [hn4, hn6]
    omega
  obtain ⟨vm', hW', st⟩ := Steps.vmThrowsMessageColdByV p (s₀ := s) (S := W) (g := g) h0 hexec T L Z LZ M LM X.warmed (t := W.cur) rfl Zs LZs P1 L1 Ps hL hlink1 hlink hsoe hoom hfound hk hinit hord hctor
    (Launch.admits_hotImplicitExceptions X.admits) hbeyond hfreeW htext hlimit hheap (X.cellsAbove hRcells) hslots (hfitv _) (hfitc _)
    (Nn := fun u => u) heapOnly_id (fun _ _ => rfl) (fun _ => rfl) (fun u x y => setCell_twice _ _ _ _) (fun _ => Nat.le_refl _) (cN := ((preparedCellV T.toThrowableT (freshCell P1.m.cls kX) (W.heap.size + 2) u0 sen).withEntry W.cur))
    hsel0 hcellS hknownS hvU tkS (fun _ hu => hu) (fun _ hu => hu) rfl rfl rfl (by simp [preparedCellV, Cell.setSlot, Cell.withEntry]) hskip (fun _ _ hA hW _ hroom _ hrest => L.nativeOff p htr hA hW hroom hrest) hselF hvSen tkC tkP tkM Y.objLocals rfl hfr' hwd'
  rw [plainBareV_eq T.toThrowableT (W.heap.size + 2) u0 sen (.ref (W.heap.size + 1)) W.cur rfl rfl] at st
  obtain ⟨-, -, w3, w4, -, -, -⟩ := withThrown_facts e.platform W Zs text P1.m.cls kX
  have X3 := ((X.pushed (bytesOf Zs.cB (stringToUtf16 text))).pushed (stringAt Zs.cS Zs.kS Zs.fv Zs.fc (stringToUtf16 text) W.heap.size)).pushed (freshCell P1.m.cls kX)
  rw [← withString_eq] at X3
  have X4 := X3.noted hW'
  have ha : (W.heap.size + 2) < ((withThrown W Zs text P1.m.cls kX).setVm vm').heap.size := by show _ < (withThrown W Zs text P1.m.cls kX).heap.size; rw [w3]; omega
  have hcell : ((withThrown W Zs text P1.m.cls kX).setVm vm').heap[(W.heap.size + 2)]? = some (freshCell P1.m.cls kX) := w4
  have X5 := ((((X4.stored hcell T.fCause.slot (.ref (W.heap.size + 2))).storedAgain ha T.fStack.slot u0.v).storedAgain ha T.fSupp.slot sen.v).storedAgain ha T.fStack.slot u0.v).storedAgain ha T.fMsg.slot (.ref (W.heap.size + 1))
  obtain ⟨g₁, hfrM⟩ := X5.frames_eq
  have hU : ((((withThrown W Zs text P1.m.cls kX).setVm vm').setCell (W.heap.size + 2) (plainBareV T.toThrowableT (freshCell P1.m.cls kX) (W.heap.size + 2) u0 sen (.ref (W.heap.size + 1)))).setTop g).pushFrame (.throwing (W.heap.size + 2)) = (((withThrown W Zs text P1.m.cls kX).setVm vm').setCell (W.heap.size + 2) (plainBareV T.toThrowableT (freshCell P1.m.cls kX) (W.heap.size + 2) u0 sen (.ref (W.heap.size + 1)))).setFrames (.throwing (W.heap.size + 2) :: .java g :: below) := by
    rw [State.pushFrame, State.frames_setTop _ hfrM, State.setTop_of_frames _ hfrM, State.setFrames_setFrames]
  have b1 : (bytesOf Zs.cB (stringToUtf16 text)).slots.size = (stringBytes (stringToUtf16 text)).size := by
    rw [(Cell.writeAll_facts _ _).2.2]; simp [bytes0]
  have b2 : (stringAt Zs.cS Zs.kS Zs.fv Zs.fc (stringToUtf16 text) W.heap.size).slots.size = 4 := by simp [string0, Cell.setSlot, hn4]
  have b3 : (freshCell P1.m.cls kX).slots.size = 6 := by simp [hn6]
  rw [b1, b2, b3] at X5
  have e9 : slots + (stringBytes (stringToUtf16 text)).size + 4 + 6 = slots + ((stringBytes (stringToUtf16 text)).size + 4 + 6) := by omega
  rw [e9] at X5
  simp only [List.append_assoc, List.cons_append, List.nil_append] at X5
  refine ⟨((withThrown W Zs text P1.m.cls kX).setVm vm').setCell (W.heap.size + 2) (plainBareV T.toThrowableT (freshCell P1.m.cls kX) (W.heap.size + 2) u0 sen (.ref (W.heap.size + 1))), W.heap.size + 2, _, fun target ht => st _ (by rw [X.tail, ← hU]; exact ht),
    X5.forget (fun y hy => ?_), heapAt_setCell_self _ ha, hfound, rfl⟩
  simp only [List.mem_cons, List.not_mem_nil, or_false] at hy
  have hge : s.heap.size ≤ W.heap.size := X.same.2.1
  rcases hy with rfl | rfl | rfl | rfl | rfl <;> exact Nat.le_trans hge (Nat.le_add_right _ 2)
set_option maxHeartbeats 1000000 in
/-- the machine throws NullPointerException, no traces kept: from its note over the frame g to 'throwing' over the same frame (follows the proof of Stand.vmThrowsNpe, Shelf42/KT2.lean; throwsNpeColdBareVAt, Shelf42/NT91.lean, called) -/
theorem vx_npeAt {p : Program} {l : Launch} {e : Env} {R : Room} {s : State} {m₀ : MethodId} {args : Array Value} {below : List Frame} {meth : Method} {c : Code} {W : State} {locs : List Loc} {cells slots : Nat}
    (X : Stand p l e R s m₀ args below meth c W locs cells slots) (hexec : p.tables.exec = Jvm.exec) (htr : e.platform.stackTraces = false) {n : Nat}
    (h : ∀ a ∈ Bundle.npeArmAtoms n, a.before args s = true)
    (hlocs : ∀ x ∈ locs, ∀ cell, s.heap[x.base]? = some cell → cell.vm.isStatics = false)
    {g : JFrame} (hg : g.method = m₀) (hsize : g.locals.size = c.maxLocals)
    (hRframes : 7 < R.frames) (hRlocals : 2 * g.monitorRoom + (g.stack.map fun v => v.category).sum + 10240 ≤ R.locals)
    (hRcells : cells + 1 ≤ R.cells) (hRslots : slots + n ≤ R.slots) (hlocks : meth.locks = false) :
    ∃ (S : State) (q : Addr) (ce : Cell), (∀ target, Steps p.tables e below ((S.setTop g).pushFrame (.throwing q)) target → Steps p.tables e below ((W.setTop g).pushFrame (.throwNew "java/lang/NullPointerException" none none)) target) ∧
      Stand p l e R s m₀ args below meth c S locs (cells + 1) (slots + n) ∧ S.heap[q]? = some ce ∧ s.vm.findClass "java/lang/NullPointerException" = some ce.cls ∧ ce.vm = .none := by
  have howns : e.platform.frameOwnsMonitors = true := by rw [X.admits.platform]
  have hfin : e.platform.finalization = false := by rw [X.admits.platform]
  have hpl : e.platform.magicAccessors = ({} : Platform).magicAccessors := by rw [X.admits.platform]
  have hpl2 : e.platform.arrayCloneIsPublic = true := by rw [X.admits.platform]
  have a' : ∀ x, x ∈ Bundle.npeArmAtoms n → x.holds args s none s [] = true := fun x hx => h x hx
  obtain ⟨T, Z, L, LZ, Y⟩ := ThrowableC.of_atoms (args := args) howns hfin hpl (fun x hx => h x (by simp [Bundle.npeArmAtoms, hx]))
  obtain ⟨N, LN, hcN, hnNF, hordN, hffS⟩ := NpeC.of_atoms (args := args) hpl hpl2 L Y (fun x hx => h x (by simp [Bundle.npeArmAtoms, hx]))
  obtain ⟨P1, L1, hP1m, hP1s⟩ := PassC.of_atoms (args := args) (s := s) hpl (X := Bundle.nN) (Y := Bundle.rN) (by decide) (by decide) LibCode.NullPointerException.Init0.at_0 LibCode.NullPointerException.Init0.at_1 LibCode.NullPointerException.Init0.at_4 (fun x hx => h x (by simp [Bundle.npeArmAtoms, hx]))
  obtain ⟨PR, LR, hPRm, hPRs⟩ := PassC.of_atoms (args := args) (s := s) hpl (X := Bundle.rN) (Y := Bundle.eN) (by decide) (by decide) LibCode.RuntimeException.Init0.at_0 LibCode.RuntimeException.Init0.at_1 LibCode.RuntimeException.Init0.at_4 (fun x hx => h x (by simp [Bundle.npeArmAtoms, hx]))
  obtain ⟨PE, LEx, hPEm, hPEs⟩ := PassC.of_atoms (args := args) (s := s) hpl (X := Bundle.eN) (Y := Bundle.tN) (by decide) (by decide) LibCode.Exception.Init0.at_0 LibCode.Exception.Init0.at_1 LibCode.Exception.Init0.at_4 (fun x hx => h x (by simp [Bundle.npeArmAtoms, hx]))
  have hfound : s.vm.findClass Bundle.nN = some P1.m.cls := findClass_of_methodNamed hP1m
  have ecls : N.cN = P1.m.cls := Option.some.inj (hcN.symm.trans hfound)
  have hk : s.vm.classes[P1.m.cls]? = some N.kN := by rw [← ecls]; exact LN.cls
  have hinit := Cond.initialized_spec hfound hk (a' (.initialized Bundle.nN) (by simp [Bundle.npeArmAtoms]))
  have hctor : N.kN.findMethod "<init>" "()V" = some P1.m.idx := findMethod_of_methodNamed hP1m hk
  obtain ⟨c1, k1, hc1, hk1, -, -, -, hn⟩ := Cond.instantiable_spec (a' (.instantiable Bundle.nN n) (by simp [Bundle.npeArmAtoms]))
  cases Option.some.inj (hc1.symm.trans hfound)
  cases Option.some.inj (hk1.symm.trans hk)
  have hfsz : (freshCell P1.m.cls N.kN).slots.size = n := by simp [hn]
  have hlink1 : P1.sup = PR.m := Option.some.inj (hP1s.symm.trans hPRm)
  have hlinkR : PR.sup = PE.m := Option.some.inj (hPRs.symm.trans hPEm)
  have hlinkE : PE.sup = Z.m T.toThrowableT := Option.some.inj (hPEs.symm.trans Y.init0)
  have hLs : ∀ P, P ∈ [PR, PE] → P.Links0 e.platform s := fun P hP => by
    simp only [List.mem_cons, List.not_mem_nil, or_false] at hP
    rcases hP with rfl | rfl
    · exact LR
    · exact LEx
  have hsel0 : selectMethod e.platform s.vm P1.m.cls T.fill0 = .method T.fill0 := by
    obtain ⟨c2, r2, m2, q1, q2, q3, q4, -⟩ := Cond.selects_spec (a' (.selects Bundle.nN Bundle.tFill0 Bundle.tFill0) (by simp [Bundle.npeArmAtoms]))
    cases Option.some.inj (q1.symm.trans hfound)
    cases Option.some.inj (q2.symm.trans (State.methodFound?_of_named Y.fill0 (by decide)))
    cases Option.some.inj (q3.symm.trans Y.fill0)
    rw [Launch.admits_selectMethod X.admits]; exact q4
  have hselF : selectMethod e.platform s.vm P1.m.cls T.fill = .method N.fill := by
    obtain ⟨c2, r2, m2, q1, q2, q3, q4, -⟩ := Cond.selects_spec (a' (.selects Bundle.nN Bundle.tFill Bundle.nFill) (by simp [Bundle.npeArmAtoms]))
    cases Option.some.inj (q1.symm.trans hfound)
    cases Option.some.inj (q2.symm.trans (State.methodFound?_of_named Y.fill (by decide)))
    cases Option.some.inj (q3.symm.trans hnNF)
    rw [Launch.admits_selectMethod X.admits]; exact q4
  obtain ⟨cellS0, hcS0, hiss⟩ := Y.statics
  obtain ⟨u0, hu0⟩ := Cond.staticRefV Y.unassigned L.unassignedStatic L.statics hcS0 hiss (a' (.isRef (.static Bundle.tN "UNASSIGNED_STACK" Bundle.steD)) (by simp [Bundle.npeArmAtoms]))
  obtain ⟨sen, hsen⟩ := Cond.staticRefV Y.sentinel L.sentinelStatic L.statics hcS0 hiss (a' (.isRef (.static Bundle.tN "SUPPRESSED_SENTINEL" Bundle.listD)) (by simp [Bundle.npeArmAtoms]))
  obtain ⟨ci198, i198, fB, hk198, hg198, ha198, hsB, -, hnB, htB, hffB⟩ := Cond.ownField (t := .object "java/lang/Object") Y.found L.cls (by decide +kernel) (a' (.fieldLink Bundle.tN 198 Bundle.tN "backtrace" Bundle.objD) (by simp [Bundle.npeArmAtoms])) (a' (.lays Bundle.tN Bundle.tN "backtrace" Bundle.objD) (by simp [Bundle.npeArmAtoms])) e.platform hpl
  obtain ⟨cellS, hcS', heS, -, hkeep⟩ := X.same.2.2.2.2.2 T.aS cellS0 hcS0
  have hcellS : W.heap[T.aS]? = some cellS := hcS'
  have hout' : ∀ i, (⟨T.aS, i⟩ : Loc) ∉ locs := fun i hmem => by
    have := hlocs _ hmem cellS0 hcS0
    rw [hiss] at this; cases this
  have hknownS : cellS.vm ≠ .unknown := by
    rw [heS]; intro hu
    rw [show cellS0.vm = .unknown from hu] at hiss
    cases hiss
  have hvU : cellS.slots[T.fUnassigned.slot]? = some u0.v := by rw [hkeep _ (hout' _)]; exact hu0
  have hvSen : cellS.slots[T.fSentinel.slot]? = some sen.v := by rw [hkeep _ (hout' _)]; exact hsen
  obtain ⟨tyC, dC, hdC, hdnC⟩ := Cond.laysAt hfound hk Y.cause (a' (.lays Bundle.nN Bundle.tN "cause" "Ljava/lang/Throwable;") (by simp [Bundle.npeArmAtoms]))
  obtain ⟨tyS, dS, hdS, hdnS⟩ := Cond.laysAt hfound hk Y.stack (a' (.lays Bundle.nN Bundle.tN "stackTrace" Bundle.steD) (by simp [Bundle.npeArmAtoms]))
  obtain ⟨tyP, dP, hdP, hdnP⟩ := Cond.laysAt hfound hk Y.supp (a' (.lays Bundle.nN Bundle.tN "suppressedExceptions" Bundle.listD) (by simp [Bundle.npeArmAtoms]))
  obtain ⟨tyX, dX, hdX, hdnX⟩ := Cond.laysAt hfound hk hffS (a' (.lays Bundle.nN Bundle.nN "extendedMessageState" "I") (by simp [Bundle.npeArmAtoms, Bundle.npeAtoms]))
  obtain ⟨hnX, htX⟩ := State.fieldFound?_type hffS (t := .int) (by decide +kernel)
  have xC := Cond.laysApart hdC hdX hdnC hdnX (by rw [hnX, Y.causeName]; decide)
  have xS := Cond.laysApart hdS hdX hdnS hdnX (by rw [hnX, Y.stackName]; decide)
  have xP := Cond.laysApart hdP hdX hdnP hdnX (by rw [hnX, Y.suppName]; decide)
  have hv0 : (freshCell P1.m.cls N.kN).slots[N.fState.slot]? = some (.int 0) := by
    have := fresh_default (c := P1.m.cls) tyX
    rw [htX] at this; exact this
  obtain ⟨tyB, dB, hdB, hdnB⟩ := Cond.laysAt hfound hk hffB (a' (.lays Bundle.nN Bundle.tN "backtrace" Bundle.objD) (by simp [Bundle.npeArmAtoms]))
  have bC := Cond.laysApart hdB hdC hdnB hdnC (by rw [hnB, Y.causeName]; decide)
  have bS := Cond.laysApart hdB hdS hdnB hdnS (by rw [hnB, Y.stackName]; decide)
  have bP := Cond.laysApart hdB hdP hdnB hdnP (by rw [hnB, Y.suppName]; decide)
  have bX := Cond.laysApart hdB hdX hdnB hdnX (by rw [hnB, hnX]; decide)
  have hbk : ((npeCell N.toNpeT (preparedCellV T.toThrowableT (freshCell P1.m.cls N.kN) W.heap.size u0 sen) W.cur).withEntry W.cur).slots[fB.slot]? = some .null := by
    have := fresh_default (c := P1.m.cls) tyB
    rw [htB] at this
    simpa [npeCell, preparedCellV, Cell.setSlot, Cell.withEntry, Array.getElem?_setIfInBounds, bC, bS, bP, bX, bC.symm, bS.symm, bP.symm, bX.symm, defaultValue] using this
  have tkC := Takes.of_laid (v := .ref W.heap.size) hk hordN tyC (by rw [Y.causeType]; rfl)
  have tkS := Takes.of_laid (v := u0.v) hk hordN tyS (by rw [Y.stackType]; exact fits_refV_array _ u0)
  have tkP := Takes.of_laid (v := sen.v) hk hordN tyP (by rw [Y.suppType]; exact fits_refV_object _ sen)
  have tkX := Takes.of_laid (v := .int 1) hk hordN tyX (by rw [htX]; rfl)
  have hskip : SkipFacts T e.platform s (fun u => u) u0 ((npeCell N.toNpeT (preparedCellV T.toThrowableT (freshCell P1.m.cls N.kN) W.heap.size u0 sen) W.cur).withEntry W.cur) := ⟨{ ci198 := ci198, i198 := i198, fBack := fB }, ⟨hk198, hg198, ha198, hsB⟩, hbk, fun _ _ => rfl⟩
  obtain ⟨vm', X3, st, -⟩ := X.throwsNpeColdBareVAt hexec hg hsize T L Z LZ N LN P1 L1 [PR, PE] hLs hlink1 ⟨hlinkR, hlinkE, trivial⟩ hfound hk hinit hordN hctor hsel0 hselF hcellS hknownS hvU hvSen
    hv0 xC xS xP tkC tkS tkP tkX Y.objLocals hskip (fun _ _ hA hW _ hroom _ hrest => L.nativeOff p htr hA hW hroom hrest) (by simpa using hRframes) hRlocals (by simp) hRcells (by rw [hn]; exact hRslots)
  have hlt : W.heap.size < ((W.pushCell (freshCell P1.m.cls N.kN)).setVm vm').heap.size := by
    show W.heap.size < (W.pushCell (freshCell P1.m.cls N.kN)).heap.size
    rw [State.heap_size_pushCell]; omega
  rw [hfsz] at X3
  obtain ⟨g₁, hfrM⟩ := X3.frames_eq
  have hU : ((((W.pushCell (freshCell P1.m.cls N.kN)).setVm vm').setCell W.heap.size (npeBareV T.toThrowableT N.toNpeT (freshCell P1.m.cls N.kN) W.heap.size u0 sen)).setTop g).pushFrame (.throwing W.heap.size) = (((W.pushCell (freshCell P1.m.cls N.kN)).setVm vm').setCell W.heap.size (npeBareV T.toThrowableT N.toNpeT (freshCell P1.m.cls N.kN) W.heap.size u0 sen)).setFrames (.throwing W.heap.size :: .java g :: below) := by
    rw [State.pushFrame, State.frames_setTop _ hfrM, State.setTop_of_frames _ hfrM, State.setFrames_setFrames]
  refine ⟨_, W.heap.size, _, fun target ht => st.trans (by rw [← hU]; exact ht), X3.forget (fun y hy => ?_), heapAt_setCell_self _ hlt, hfound, rfl⟩
  simp only [List.mem_cons, List.not_mem_nil, or_false] at hy
  have hge : s.heap.size ≤ W.heap.size := X.same.2.1
  rcases hy with rfl | rfl | rfl | rfl | rfl <;> exact hge
/-- the words of a machine's NullPointerException, but the four that speak of the heap -/
def vx_atN (n : Nat) : List Cond := (Bundle.npeArmAtoms n).filter vx_no
/-- the words of a machine's throw with a message, but the four that speak of the heap -/
def vx_atM (X : String) (names : List String) : List Cond := (Bundle.messageArmAtoms X names).filter vx_no
section
variable {p : Program} {l : Launch} {e : Env} {R : Room} {s : State} {m : MethodId} {args : Array Value} {below : List Frame} {meth : Method} {c : Code} {H : Heap} {locs : List Loc} {cells slots : Nat}
/-- a frame seen from a rebased start, seen from the first start again -/
theorem vx_back9 {T S : State} {R' : Room} {k n : Nat} (X : Stand p l e R s m args below meth c T locs cells slots) (Y : Stand p l e R' ((T.setVm s.vm).setFrames (.invoking m args :: below)) m args below meth c T [] 0 0) (Z : Stand p l e R' ((T.setVm s.vm).setFrames (.invoking m args :: below)) m args below meth c S [] k n) :
    Stand p l e R s m args below meth c S locs (cells + k) (slots + n) := by
  have hW0 : s.WarmedH ((T.setVm s.vm).setFrames (.invoking m args :: below)).vm := State.WarmedH.refl s
  refine { admits := X.admits, cas := X.cas, clock := X.clock, frames := X.frames, room := X.room, hears := X.hears, method := X.method, code := X.code, here := Z.here, tail := Z.tail, warmed := State.WarmedH.trans hW0 Z.warmed, limits := Z.limits.trans (Y.limits.symm.trans X.limits), bytes := Z.bytes.trans (Y.bytes.symm.trans X.bytes), same := ?_ }
  obtain ⟨e1, e2⟩ := Z.same
  rw [State.setFrames_setFrames] at e1
  have h2 : (T.setVm s.vm).sameButNew (S.setVm s.vm) [] k n := ⟨e1, e2⟩
  have h3 := X.same.trans h2
  rw [List.append_nil] at h3
  exact h3
/-- from the machine's note that E is thrown here with this text -/
def vx_Note (p : Program) (l : Launch) (e : Env) (R : Room) (s : State) (m : MethodId) (args : Array Value) (below : List Frame) (meth : Method) (c : Code) (H : Heap) (locs : List Loc) (cells slots : Nat) (Q : State → Prop) (g : JFrame) (E text : String) : Prop :=
  ∀ T : State, T.heap = H → Stand p l e R s m args below meth c T locs cells slots → ∃ t, Steps p.tables e below ((T.setTop g).pushFrame (.throwNew E (some text) none)) t ∧ Q t
theorem vx_vm {pc : Nat} {ls : Array Slot} {rest : List Value} {Q : State → Prop} (hexec : p.tables.exec = Jvm.exec) (hl : l.stackTraces = false) {cls text : String} {names : List String} {nb : Nat} {A : Nat → Prop}
    (hcls : Bundle.fit cls = true) (hnames : ∀ n ∈ names, Bundle.fit n = true) (hsoe : (cls == "java/lang/StackOverflowError") = false) (hoom : (cls == "java/lang/OutOfMemoryError") = false)
    (hat : ∀ w ∈ vx_atM cls names, w.before args s = true) (hgood : ∀ w ∈ vx_atM cls names, vx_ot w = true)
    (hU : vx_Zq Bundle.tN "UNASSIGNED_STACK" Bundle.steD A s s.heap) (hN : vx_Zq Bundle.tN "SUPPRESSED_SENTINEL" Bundle.listD A s s.heap) (hS : va_S A s.heap H locs) (hsize : ls.size = c.maxLocals)
    (htext : (text == notModelled) = false) (hnb : (stringBytes (stringToUtf16 text)).size ≤ nb) (hnb1 : nb ≤ 1000)
    (hRframes : names.length + 4 < R.frames) (hRlocals : (rest.map fun v => v.category).sum + 10240 ≤ R.locals) (hshort : 13 * names.length + 55 ≤ 10240) (hRcells : cells + 3 ≤ R.cells) (hRslots : slots + (nb + 10) ≤ R.slots) (hlocks : meth.locks = false)
    (k : ∀ (H1 : Heap) (q9 : Addr) (ce : Cell), H.size ≤ H1.size → (∀ q : Nat, q < H.size → H1[q]? = H[q]?) → va_S A s.heap H1 locs → H1[q9]? = some ce → ce.vm = .none → s.vm.findClass cls = some ce.cls → vx_W p l e R s m args below meth c H1 locs (cells + 3) (slots + (nb + 10)) Q (F0 m pc ls rest) q9) :
    vx_Note p l e R s m args below meth c H locs cells slots Q (F0 m pc ls rest) cls text := by
  intro T hT X
  have htr : e.platform.stackTraces = false := (show e.platform.stackTraces = l.stackTraces by rw [X.admits.platform]).trans hl
  have Y := vx_rebase X (R' := { frames := R.frames, locals := R.locals, cells := 3, slots := nb + 10 }) (Nat.le_refl _) (Nat.le_refl _) hRcells hRslots
  have hhp : ((T.setVm s.vm).setFrames (.invoking m args :: below)).heap = H := hT
  have hW0 : s.WarmedH ((T.setVm s.vm).setFrames (.invoking m args :: below)).vm := State.WarmedH.refl s
  have hat' : ∀ w ∈ vx_atM cls names, w.before args ((T.setVm s.vm).setFrames (.invoking m args :: below)) = true := fun w hw => vx_ot_at hW0 rfl (hgood w hw) (hat w hw)
  have hU' : vx_Zq Bundle.tN "UNASSIGNED_STACK" Bundle.steD A ((T.setVm s.vm).setFrames (.invoking m args :: below)) ((T.setVm s.vm).setFrames (.invoking m args :: below)).heap := by rw [hhp]; exact vx_Zq.moved hW0.alike (hU.kept hS.2.1)
  have hN' : vx_Zq Bundle.tN "SUPPRESSED_SENTINEL" Bundle.listD A ((T.setVm s.vm).setFrames (.invoking m args :: below)) ((T.setVm s.vm).setFrames (.invoking m args :: below)).heap := by rw [hhp]; exact vx_Zq.moved hW0.alike (hN.kept hS.2.1)
  obtain ⟨S, q, ce, st, Z, hce, hcl', hv⟩ := vx_vmAt Y hexec htr (cls := cls) (names := names) (text := text) hcls hnames hsoe hoom (vx_own hat' (vx_isRefq hU'.1) (vx_isRefq hN'.1) hU'.2.word hN'.2.word) (fun x hx => nomatch hx) htext
    (by rw [Launch.admits_arrayLengthLimit X.admits]; omega) (by rw [Launch.admits_maxHeapBytes X.admits]; simp only [componentBytes]; omega)
    (g := F0 m pc ls rest) rfl hsize hRframes (by show 2 * 0 + (rest.map fun v => v.category).sum + 10240 ≤ R.locals; omega) hshort (by show 0 + 3 ≤ 3; omega) (by show 0 + (_ + 4 + 6) ≤ nb + 10; omega) hlocks
  obtain ⟨f1, f2⟩ := vx_frame Z.same
  have f1' : H.size ≤ S.heap.size := by rw [← hT]; exact f1
  have f2' : ∀ q : Nat, q < H.size → S.heap[q]? = H[q]? := fun q hq => by
    rw [← hT]
    exact f2 q (by rw [← hT] at hq; exact hq) (fun z hz => nomatch hz)
  have X5 := vx_back9 X Y Z
  have X6 : Stand p l e R s m args below meth c S locs (cells + 3) (slots + (nb + 10)) := { X5 with same := X5.same.mono (by omega) (by omega) }
  obtain ⟨t, a1, b1⟩ := k S.heap q ce f1' f2' ⟨Nat.le_trans hS.1 f1', fun q h1 h2 => (f2' q (Nat.lt_of_lt_of_le h1 hS.1)).trans (hS.2.1 q h1 h2), hS.2.2⟩ hce hv hcl' S rfl X6
  exact ⟨t, st t a1, b1⟩
/-- from the machine's note that NullPointerException is thrown here -/
def vx_NoteN (p : Program) (l : Launch) (e : Env) (R : Room) (s : State) (m : MethodId) (args : Array Value) (below : List Frame) (meth : Method) (c : Code) (H : Heap) (locs : List Loc) (cells slots : Nat) (Q : State → Prop) (g : JFrame) : Prop :=
  ∀ T : State, T.heap = H → Stand p l e R s m args below meth c T locs cells slots → ∃ t, Steps p.tables e below ((T.setTop g).pushFrame (.throwNew "java/lang/NullPointerException" none none)) t ∧ Q t
theorem vx_npe {pc : Nat} {ls : Array Slot} {rest : List Value} {Q : State → Prop} (hexec : p.tables.exec = Jvm.exec) (hl : l.stackTraces = false) {nb : Nat} {A : Nat → Prop}
    (hat : ∀ w ∈ vx_atN nb, w.before args s = true) (hgood : ∀ w ∈ vx_atN nb, vx_ot w = true)
    (hU : vx_Zq Bundle.tN "UNASSIGNED_STACK" Bundle.steD A s s.heap) (hN : vx_Zq Bundle.tN "SUPPRESSED_SENTINEL" Bundle.listD A s s.heap) (hS : va_S A s.heap H locs) (hsize : ls.size = c.maxLocals)
    (hRframes : 7 < R.frames) (hRlocals : (rest.map fun v => v.category).sum + 10240 ≤ R.locals) (hRcells : cells + 1 ≤ R.cells) (hRslots : slots + nb ≤ R.slots) (hlocks : meth.locks = false)
    (k : ∀ (H1 : Heap) (q9 : Addr) (ce : Cell), H.size ≤ H1.size → (∀ q : Nat, q < H.size → H1[q]? = H[q]?) → va_S A s.heap H1 locs → H1[q9]? = some ce → ce.vm = .none → s.vm.findClass "java/lang/NullPointerException" = some ce.cls → vx_W p l e R s m args below meth c H1 locs (cells + 1) (slots + nb) Q (F0 m pc ls rest) q9) :
    vx_NoteN p l e R s m args below meth c H locs cells slots Q (F0 m pc ls rest) := by
  intro T hT X
  have htr : e.platform.stackTraces = false := (show e.platform.stackTraces = l.stackTraces by rw [X.admits.platform]).trans hl
  have Y := vx_rebase X (R' := { frames := R.frames, locals := R.locals, cells := 1, slots := nb }) (Nat.le_refl _) (Nat.le_refl _) hRcells hRslots
  have hhp : ((T.setVm s.vm).setFrames (.invoking m args :: below)).heap = H := hT
  have hW0 : s.WarmedH ((T.setVm s.vm).setFrames (.invoking m args :: below)).vm := State.WarmedH.refl s
  have hat' : ∀ w ∈ vx_atN nb, w.before args ((T.setVm s.vm).setFrames (.invoking m args :: below)) = true := fun w hw => vx_ot_at hW0 rfl (hgood w hw) (hat w hw)
  have hU' : vx_Zq Bundle.tN "UNASSIGNED_STACK" Bundle.steD A ((T.setVm s.vm).setFrames (.invoking m args :: below)) ((T.setVm s.vm).setFrames (.invoking m args :: below)).heap := by rw [hhp]; exact vx_Zq.moved hW0.alike (hU.kept hS.2.1)
  have hN' : vx_Zq Bundle.tN "SUPPRESSED_SENTINEL" Bundle.listD A ((T.setVm s.vm).setFrames (.invoking m args :: below)) ((T.setVm s.vm).setFrames (.invoking m args :: below)).heap := by rw [hhp]; exact vx_Zq.moved hW0.alike (hN.kept hS.2.1)
  obtain ⟨S, q, ce, st, Z, hce, hcl', hv⟩ := vx_npeAt Y hexec htr (n := nb) (vx_own hat' (vx_isRefq hU'.1) (vx_isRefq hN'.1) hU'.2.word hN'.2.word) (fun x hx => nomatch hx)
    (g := F0 m pc ls rest) rfl hsize hRframes (by show 2 * 0 + (rest.map fun v => v.category).sum + 10240 ≤ R.locals; omega) (by show 0 + 1 ≤ 1; omega) (by show 0 + nb ≤ nb; omega) hlocks
  obtain ⟨f1, f2⟩ := vx_frame Z.same
  have f1' : H.size ≤ S.heap.size := by rw [← hT]; exact f1
  have f2' : ∀ q : Nat, q < H.size → S.heap[q]? = H[q]? := fun q hq => by
    rw [← hT]
    exact f2 q (by rw [← hT] at hq; exact hq) (fun z hz => nomatch hz)
  have X5 := vx_back9 X Y Z
  have X6 : Stand p l e R s m args below meth c S locs (cells + 1) (slots + nb) := { X5 with same := X5.same.mono (by omega) (by omega) }
  obtain ⟨t, a1, b1⟩ := k S.heap q ce f1' f2' ⟨Nat.le_trans hS.1 f1', fun q h1 h2 => (f2' q (Nat.lt_of_lt_of_le h1 hS.1)).trans (hS.2.1 q h1 h2), hS.2.2⟩ hce hv hcl' S rfl X6
  exact ⟨t, st t a1, b1⟩
variable {Q : State → Prop} {cc : ByteArray} {pc : Nat} {ls : Array Slot} {rest : List Value}
theorem vx_idivZ (hexec : p.tables.exec = Jvm.exec) (hb : c.code = cc) {a b : Int32} (h0 : b = 0) (d : decode cc pc = .ok (.idiv, 1)) (k : vx_Note p l e R s m args below meth c H locs cells slots Q (F0 m pc ls rest) "java/lang/ArithmeticException" "/ by zero") :
    W p l e R s m args below meth c H locs cells slots Q (F0 m pc ls (.int b :: .int a :: rest)) := by
  intro T hT X
  obtain ⟨t, st, q⟩ := k T hT X
  exact ⟨t, X.idivZero hexec (g := F0 m pc ls (.int b :: .int a :: rest)) rfl (a := a) (rest := rest) (by rw [h0]) (by rw [hb]; exact d) t st, q⟩
theorem vx_iremZ (hexec : p.tables.exec = Jvm.exec) (hb : c.code = cc) {a b : Int32} (h0 : b = 0) (d : decode cc pc = .ok (.irem, 1)) (k : vx_Note p l e R s m args below meth c H locs cells slots Q (F0 m pc ls rest) "java/lang/ArithmeticException" "/ by zero") :
    W p l e R s m args below meth c H locs cells slots Q (F0 m pc ls (.int b :: .int a :: rest)) := by
  intro T hT X
  obtain ⟨t, st, q⟩ := k T hT X
  exact ⟨t, X.iremZero hexec (g := F0 m pc ls (.int b :: .int a :: rest)) rfl (a := a) (rest := rest) (by rw [h0]) (by rw [hb]; exact d) t st, q⟩
theorem vx_ldivZ (hexec : p.tables.exec = Jvm.exec) (hb : c.code = cc) {a b : Int64} (h0 : b = 0) (d : decode cc pc = .ok (.ldiv, 1)) (k : vx_Note p l e R s m args below meth c H locs cells slots Q (F0 m pc ls rest) "java/lang/ArithmeticException" "/ by zero") :
    W p l e R s m args below meth c H locs cells slots Q (F0 m pc ls (.long b :: .long a :: rest)) := by
  intro T hT X
  obtain ⟨t, st, q⟩ := k T hT X
  exact ⟨t, X.ldivZero hexec (g := F0 m pc ls (.long b :: .long a :: rest)) rfl (a := a) (rest := rest) (by rw [h0]) (by rw [hb]; exact d) t st, q⟩
theorem vx_lremZ (hexec : p.tables.exec = Jvm.exec) (hb : c.code = cc) {a b : Int64} (h0 : b = 0) (d : decode cc pc = .ok (.lrem, 1)) (k : vx_Note p l e R s m args below meth c H locs cells slots Q (F0 m pc ls rest) "java/lang/ArithmeticException" "/ by zero") :
    W p l e R s m args below meth c H locs cells slots Q (F0 m pc ls (.long b :: .long a :: rest)) := by
  intro T hT X
  obtain ⟨t, st, q⟩ := k T hT X
  exact ⟨t, X.lremZero hexec (g := F0 m pc ls (.long b :: .long a :: rest)) rfl (a := a) (rest := rest) (by rw [h0]) (by rw [hb]; exact d) t st, q⟩
theorem vx_ialdZ {D : va_G} {cl : List vw_C} {ws : va_W} {tys : List (ClassId × FieldType)} {a : Nat} (hexec : p.tables.exec = Jvm.exec) (hb : c.code = cc) (hK : va_K D cl tys s) (hP : va_P D cl ws H) (q0 t0 : Nat) {cA : ClassId} {n : Nat} {f : Nat → Int32} (ha : ws[q0]? = some (a, .inl (cA, n, .inl f))) (ht : tys[t0]? = some (cA, .int)) {i : Int32} (hout : ¬ vp_in i n) (hdg : decode cc pc = .ok (.iaload, 1))
    (k : ∀ tx : String, tx = (toString "Index " ++ toString i ++ toString " out of bounds for length " ++ toString n : String) → vx_Note p l e R s m args below meth c H locs cells slots Q (F0 m pc ls rest) "java/lang/ArrayIndexOutOfBoundsException" tx) : W p l e R s m args below meth c H locs cells slots Q (F0 m pc ls (.int i :: .ref a :: rest)) := by
  intro T hT X
  obtain ⟨t, st, q⟩ := k _ rfl T hT X
  refine ⟨t, ?_, q⟩
  have h1 := X.ialoadOut hexec (by rw [hT]; exact hP q0 _ ha) ((hK.2 t0 _ ht).1 n (fun j => .int (f j))) (j := i) (by show (i < 0 ∨ (arrV _ _ _).slots.size ≤ _); rw [arrV_size]; exact Classical.byContradiction hout) (g := F0 m pc ls (.int i :: .ref a :: rest)) rfl (rest := rest) rfl (by rw [hb]; exact hdg) t
  simp only [arrV_size] at h1
  exact h1 st
theorem vx_iastZ {D : va_G} {cl : List vw_C} {ws : va_W} {tys : List (ClassId × FieldType)} {a : Nat} (hexec : p.tables.exec = Jvm.exec) (hb : c.code = cc) (hK : va_K D cl tys s) (hP : va_P D cl ws H) (q0 t0 : Nat) {cA : ClassId} {n : Nat} {f : Nat → Int32} (ha : ws[q0]? = some (a, .inl (cA, n, .inl f))) (ht : tys[t0]? = some (cA, .int)) {i : Int32} {x : Int32} (hout : ¬ vp_in i n) (hdg : decode cc pc = .ok (.iastore, 1))
    (k : ∀ tx : String, tx = (toString "Index " ++ toString i ++ toString " out of bounds for length " ++ toString n : String) → vx_Note p l e R s m args below meth c H locs cells slots Q (F0 m pc ls rest) "java/lang/ArrayIndexOutOfBoundsException" tx) : W p l e R s m args below meth c H locs cells slots Q (F0 m pc ls (.int x :: .int i :: .ref a :: rest)) := by
  intro T hT X
  obtain ⟨t, st, q⟩ := k _ rfl T hT X
  refine ⟨t, ?_, q⟩
  have h1 := X.iastoreOut hexec (by rw [hT]; exact hP q0 _ ha) ((hK.2 t0 _ ht).1 n (fun j => .int (f j))) (j := i) (by show (i < 0 ∨ (arrV _ _ _).slots.size ≤ _); rw [arrV_size]; exact Classical.byContradiction hout) (g := F0 m pc ls (.int x :: .int i :: .ref a :: rest)) rfl (rest := rest) rfl (by rw [hb]; exact hdg) t
  simp only [arrV_size] at h1
  exact h1 st
theorem vx_baldZ {D : va_G} {cl : List vw_C} {ws : va_W} {tys : List (ClassId × FieldType)} {a : Nat} (hexec : p.tables.exec = Jvm.exec) (hb : c.code = cc) (hK : va_K D cl tys s) (hP : va_P D cl ws H) (q0 t0 : Nat) {cA : ClassId} {n : Nat} {f : Nat → Int32} (ha : ws[q0]? = some (a, .inl (cA, n, .inl f))) (ht : tys[t0]? = some (cA, .byte)) {i : Int32} (hout : ¬ vp_in i n) (hdg : decode cc pc = .ok (.baload, 1))
    (k : ∀ tx : String, tx = (toString "Index " ++ toString i ++ toString " out of bounds for length " ++ toString n : String) → vx_Note p l e R s m args below meth c H locs cells slots Q (F0 m pc ls rest) "java/lang/ArrayIndexOutOfBoundsException" tx) : W p l e R s m args below meth c H locs cells slots Q (F0 m pc ls (.int i :: .ref a :: rest)) := by
  intro T hT X
  obtain ⟨t, st, q⟩ := k _ rfl T hT X
  refine ⟨t, ?_, q⟩
  have h1 := X.baloadOut hexec (by rw [hT]; exact hP q0 _ ha) ((hK.2 t0 _ ht).1 n (fun j => .int (f j))) (j := i) (by show (i < 0 ∨ (arrV _ _ _).slots.size ≤ _); rw [arrV_size]; exact Classical.byContradiction hout) (g := F0 m pc ls (.int i :: .ref a :: rest)) rfl (rest := rest) rfl (by rw [hb]; exact hdg) t
  simp only [arrV_size] at h1
  exact h1 st
theorem vx_bastZ {D : va_G} {cl : List vw_C} {ws : va_W} {tys : List (ClassId × FieldType)} {a : Nat} (hexec : p.tables.exec = Jvm.exec) (hb : c.code = cc) (hK : va_K D cl tys s) (hP : va_P D cl ws H) (q0 t0 : Nat) {cA : ClassId} {n : Nat} {f : Nat → Int32} (ha : ws[q0]? = some (a, .inl (cA, n, .inl f))) (ht : tys[t0]? = some (cA, .byte)) {i : Int32} {x : Int32} (hout : ¬ vp_in i n) (hdg : decode cc pc = .ok (.bastore, 1))
    (k : ∀ tx : String, tx = (toString "Index " ++ toString i ++ toString " out of bounds for length " ++ toString n : String) → vx_Note p l e R s m args below meth c H locs cells slots Q (F0 m pc ls rest) "java/lang/ArrayIndexOutOfBoundsException" tx) : W p l e R s m args below meth c H locs cells slots Q (F0 m pc ls (.int x :: .int i :: .ref a :: rest)) := by
  intro T hT X
  obtain ⟨t, st, q⟩ := k _ rfl T hT X
  refine ⟨t, ?_, q⟩
  have h1 := X.bastoreOut hexec (by rw [hT]; exact hP q0 _ ha) ((hK.2 t0 _ ht).1 n (fun j => .int (f j))) (j := i) (by show (i < 0 ∨ (arrV _ _ _).slots.size ≤ _); rw [arrV_size]; exact Classical.byContradiction hout) (g := F0 m pc ls (.int x :: .int i :: .ref a :: rest)) rfl (rest := rest) rfl (by rw [hb]; exact hdg) t
  simp only [arrV_size] at h1
  exact h1 st
theorem vx_zaldZ {D : va_G} {cl : List vw_C} {ws : va_W} {tys : List (ClassId × FieldType)} {a : Nat} (hexec : p.tables.exec = Jvm.exec) (hb : c.code = cc) (hK : va_K D cl tys s) (hP : va_P D cl ws H) (q0 t0 : Nat) {cA : ClassId} {n : Nat} {f : Nat → Int32} (ha : ws[q0]? = some (a, .inl (cA, n, .inl f))) (ht : tys[t0]? = some (cA, .boolean)) {i : Int32} (hout : ¬ vp_in i n) (hdg : decode cc pc = .ok (.baload, 1))
    (k : ∀ tx : String, tx = (toString "Index " ++ toString i ++ toString " out of bounds for length " ++ toString n : String) → vx_Note p l e R s m args below meth c H locs cells slots Q (F0 m pc ls rest) "java/lang/ArrayIndexOutOfBoundsException" tx) : W p l e R s m args below meth c H locs cells slots Q (F0 m pc ls (.int i :: .ref a :: rest)) := by
  intro T hT X
  obtain ⟨t, st, q⟩ := k _ rfl T hT X
  refine ⟨t, ?_, q⟩
  have h1 := X.baloadOut hexec (by rw [hT]; exact hP q0 _ ha) ((hK.2 t0 _ ht).1 n (fun j => .int (f j))) (j := i) (by show (i < 0 ∨ (arrV _ _ _).slots.size ≤ _); rw [arrV_size]; exact Classical.byContradiction hout) (g := F0 m pc ls (.int i :: .ref a :: rest)) rfl (rest := rest) rfl (by rw [hb]; exact hdg) t
  simp only [arrV_size] at h1
  exact h1 st
theorem vx_zastZ {D : va_G} {cl : List vw_C} {ws : va_W} {tys : List (ClassId × FieldType)} {a : Nat} (hexec : p.tables.exec = Jvm.exec) (hb : c.code = cc) (hK : va_K D cl tys s) (hP : va_P D cl ws H) (q0 t0 : Nat) {cA : ClassId} {n : Nat} {f : Nat → Int32} (ha : ws[q0]? = some (a, .inl (cA, n, .inl f))) (ht : tys[t0]? = some (cA, .boolean)) {i : Int32} {x : Int32} (hout : ¬ vp_in i n) (hdg : decode cc pc = .ok (.bastore, 1))
    (k : ∀ tx : String, tx = (toString "Index " ++ toString i ++ toString " out of bounds for length " ++ toString n : String) → vx_Note p l e R s m args below meth c H locs cells slots Q (F0 m pc ls rest) "java/lang/ArrayIndexOutOfBoundsException" tx) : W p l e R s m args below meth c H locs cells slots Q (F0 m pc ls (.int x :: .int i :: .ref a :: rest)) := by
  intro T hT X
  obtain ⟨t, st, q⟩ := k _ rfl T hT X
  refine ⟨t, ?_, q⟩
  have h1 := X.bastoreOut hexec (by rw [hT]; exact hP q0 _ ha) ((hK.2 t0 _ ht).1 n (fun j => .int (f j))) (j := i) (by show (i < 0 ∨ (arrV _ _ _).slots.size ≤ _); rw [arrV_size]; exact Classical.byContradiction hout) (g := F0 m pc ls (.int x :: .int i :: .ref a :: rest)) rfl (rest := rest) rfl (by rw [hb]; exact hdg) t
  simp only [arrV_size] at h1
  exact h1 st
theorem vx_caldZ {D : va_G} {cl : List vw_C} {ws : va_W} {tys : List (ClassId × FieldType)} {a : Nat} (hexec : p.tables.exec = Jvm.exec) (hb : c.code = cc) (hK : va_K D cl tys s) (hP : va_P D cl ws H) (q0 t0 : Nat) {cA : ClassId} {n : Nat} {f : Nat → Int32} (ha : ws[q0]? = some (a, .inl (cA, n, .inl f))) (ht : tys[t0]? = some (cA, .char)) {i : Int32} (hout : ¬ vp_in i n) (hdg : decode cc pc = .ok (.caload, 1))
    (k : ∀ tx : String, tx = (toString "Index " ++ toString i ++ toString " out of bounds for length " ++ toString n : String) → vx_Note p l e R s m args below meth c H locs cells slots Q (F0 m pc ls rest) "java/lang/ArrayIndexOutOfBoundsException" tx) : W p l e R s m args below meth c H locs cells slots Q (F0 m pc ls (.int i :: .ref a :: rest)) := by
  intro T hT X
  obtain ⟨t, st, q⟩ := k _ rfl T hT X
  refine ⟨t, ?_, q⟩
  have h1 := X.caloadOut hexec (by rw [hT]; exact hP q0 _ ha) ((hK.2 t0 _ ht).1 n (fun j => .int (f j))) (j := i) (by show (i < 0 ∨ (arrV _ _ _).slots.size ≤ _); rw [arrV_size]; exact Classical.byContradiction hout) (g := F0 m pc ls (.int i :: .ref a :: rest)) rfl (rest := rest) rfl (by rw [hb]; exact hdg) t
  simp only [arrV_size] at h1
  exact h1 st
theorem vx_castZ {D : va_G} {cl : List vw_C} {ws : va_W} {tys : List (ClassId × FieldType)} {a : Nat} (hexec : p.tables.exec = Jvm.exec) (hb : c.code = cc) (hK : va_K D cl tys s) (hP : va_P D cl ws H) (q0 t0 : Nat) {cA : ClassId} {n : Nat} {f : Nat → Int32} (ha : ws[q0]? = some (a, .inl (cA, n, .inl f))) (ht : tys[t0]? = some (cA, .char)) {i : Int32} {x : Int32} (hout : ¬ vp_in i n) (hdg : decode cc pc = .ok (.castore, 1))
    (k : ∀ tx : String, tx = (toString "Index " ++ toString i ++ toString " out of bounds for length " ++ toString n : String) → vx_Note p l e R s m args below meth c H locs cells slots Q (F0 m pc ls rest) "java/lang/ArrayIndexOutOfBoundsException" tx) : W p l e R s m args below meth c H locs cells slots Q (F0 m pc ls (.int x :: .int i :: .ref a :: rest)) := by
  intro T hT X
  obtain ⟨t, st, q⟩ := k _ rfl T hT X
  refine ⟨t, ?_, q⟩
  have h1 := X.castoreOut hexec (by rw [hT]; exact hP q0 _ ha) ((hK.2 t0 _ ht).1 n (fun j => .int (f j))) (j := i) (by show (i < 0 ∨ (arrV _ _ _).slots.size ≤ _); rw [arrV_size]; exact Classical.byContradiction hout) (g := F0 m pc ls (.int x :: .int i :: .ref a :: rest)) rfl (rest := rest) rfl (by rw [hb]; exact hdg) t
  simp only [arrV_size] at h1
  exact h1 st
theorem vx_saldZ {D : va_G} {cl : List vw_C} {ws : va_W} {tys : List (ClassId × FieldType)} {a : Nat} (hexec : p.tables.exec = Jvm.exec) (hb : c.code = cc) (hK : va_K D cl tys s) (hP : va_P D cl ws H) (q0 t0 : Nat) {cA : ClassId} {n : Nat} {f : Nat → Int32} (ha : ws[q0]? = some (a, .inl (cA, n, .inl f))) (ht : tys[t0]? = some (cA, .short)) {i : Int32} (hout : ¬ vp_in i n) (hdg : decode cc pc = .ok (.saload, 1))
    (k : ∀ tx : String, tx = (toString "Index " ++ toString i ++ toString " out of bounds for length " ++ toString n : String) → vx_Note p l e R s m args below meth c H locs cells slots Q (F0 m pc ls rest) "java/lang/ArrayIndexOutOfBoundsException" tx) : W p l e R s m args below meth c H locs cells slots Q (F0 m pc ls (.int i :: .ref a :: rest)) := by
  intro T hT X
  obtain ⟨t, st, q⟩ := k _ rfl T hT X
  refine ⟨t, ?_, q⟩
  have h1 := X.saloadOut hexec (by rw [hT]; exact hP q0 _ ha) ((hK.2 t0 _ ht).1 n (fun j => .int (f j))) (j := i) (by show (i < 0 ∨ (arrV _ _ _).slots.size ≤ _); rw [arrV_size]; exact Classical.byContradiction hout) (g := F0 m pc ls (.int i :: .ref a :: rest)) rfl (rest := rest) rfl (by rw [hb]; exact hdg) t
  simp only [arrV_size] at h1
  exact h1 st
theorem vx_sastZ {D : va_G} {cl : List vw_C} {ws : va_W} {tys : List (ClassId × FieldType)} {a : Nat} (hexec : p.tables.exec = Jvm.exec) (hb : c.code = cc) (hK : va_K D cl tys s) (hP : va_P D cl ws H) (q0 t0 : Nat) {cA : ClassId} {n : Nat} {f : Nat → Int32} (ha : ws[q0]? = some (a, .inl (cA, n, .inl f))) (ht : tys[t0]? = some (cA, .short)) {i : Int32} {x : Int32} (hout : ¬ vp_in i n) (hdg : decode cc pc = .ok (.sastore, 1))
    (k : ∀ tx : String, tx = (toString "Index " ++ toString i ++ toString " out of bounds for length " ++ toString n : String) → vx_Note p l e R s m args below meth c H locs cells slots Q (F0 m pc ls rest) "java/lang/ArrayIndexOutOfBoundsException" tx) : W p l e R s m args below meth c H locs cells slots Q (F0 m pc ls (.int x :: .int i :: .ref a :: rest)) := by
  intro T hT X
  obtain ⟨t, st, q⟩ := k _ rfl T hT X
  refine ⟨t, ?_, q⟩
  have h1 := X.sastoreOut hexec (by rw [hT]; exact hP q0 _ ha) ((hK.2 t0 _ ht).1 n (fun j => .int (f j))) (j := i) (by show (i < 0 ∨ (arrV _ _ _).slots.size ≤ _); rw [arrV_size]; exact Classical.byContradiction hout) (g := F0 m pc ls (.int x :: .int i :: .ref a :: rest)) rfl (rest := rest) rfl (by rw [hb]; exact hdg) t
  simp only [arrV_size] at h1
  exact h1 st
theorem vx_laldZ {D : va_G} {cl : List vw_C} {ws : va_W} {tys : List (ClassId × FieldType)} {a : Nat} (hexec : p.tables.exec = Jvm.exec) (hb : c.code = cc) (hK : va_K D cl tys s) (hP : va_P D cl ws H) (q0 t0 : Nat) {cA : ClassId} {n : Nat} {f : Nat → Int64} (ha : ws[q0]? = some (a, .inl (cA, n, .inr (.inl f)))) (ht : tys[t0]? = some (cA, .long)) {i : Int32} (hout : ¬ vp_in i n) (hdg : decode cc pc = .ok (.laload, 1))
    (k : ∀ tx : String, tx = (toString "Index " ++ toString i ++ toString " out of bounds for length " ++ toString n : String) → vx_Note p l e R s m args below meth c H locs cells slots Q (F0 m pc ls rest) "java/lang/ArrayIndexOutOfBoundsException" tx) : W p l e R s m args below meth c H locs cells slots Q (F0 m pc ls (.int i :: .ref a :: rest)) := by
  intro T hT X
  obtain ⟨t, st, q⟩ := k _ rfl T hT X
  refine ⟨t, ?_, q⟩
  have h1 := X.laloadOut hexec (by rw [hT]; exact hP q0 _ ha) ((hK.2 t0 _ ht).1 n (fun j => .long (f j))) (j := i) (by show (i < 0 ∨ (arrV _ _ _).slots.size ≤ _); rw [arrV_size]; exact Classical.byContradiction hout) (g := F0 m pc ls (.int i :: .ref a :: rest)) rfl (rest := rest) rfl (by rw [hb]; exact hdg) t
  simp only [arrV_size] at h1
  exact h1 st
theorem vx_lastZ {D : va_G} {cl : List vw_C} {ws : va_W} {tys : List (ClassId × FieldType)} {a : Nat} (hexec : p.tables.exec = Jvm.exec) (hb : c.code = cc) (hK : va_K D cl tys s) (hP : va_P D cl ws H) (q0 t0 : Nat) {cA : ClassId} {n : Nat} {f : Nat → Int64} (ha : ws[q0]? = some (a, .inl (cA, n, .inr (.inl f)))) (ht : tys[t0]? = some (cA, .long)) {i : Int32} {x : Int64} (hout : ¬ vp_in i n) (hdg : decode cc pc = .ok (.lastore, 1))
    (k : ∀ tx : String, tx = (toString "Index " ++ toString i ++ toString " out of bounds for length " ++ toString n : String) → vx_Note p l e R s m args below meth c H locs cells slots Q (F0 m pc ls rest) "java/lang/ArrayIndexOutOfBoundsException" tx) : W p l e R s m args below meth c H locs cells slots Q (F0 m pc ls (.long x :: .int i :: .ref a :: rest)) := by
  intro T hT X
  obtain ⟨t, st, q⟩ := k _ rfl T hT X
  refine ⟨t, ?_, q⟩
  have h1 := X.lastoreOut hexec (by rw [hT]; exact hP q0 _ ha) ((hK.2 t0 _ ht).1 n (fun j => .long (f j))) (j := i) (by show (i < 0 ∨ (arrV _ _ _).slots.size ≤ _); rw [arrV_size]; exact Classical.byContradiction hout) (g := F0 m pc ls (.long x :: .int i :: .ref a :: rest)) rfl (rest := rest) rfl (by rw [hb]; exact hdg) t
  simp only [arrV_size] at h1
  exact h1 st
theorem vx_faldZ {D : va_G} {cl : List vw_C} {ws : va_W} {tys : List (ClassId × FieldType)} {a : Nat} (hexec : p.tables.exec = Jvm.exec) (hb : c.code = cc) (hK : va_K D cl tys s) (hP : va_P D cl ws H) (q0 t0 : Nat) {cA : ClassId} {n : Nat} {f : Nat → UInt32} (ha : ws[q0]? = some (a, .inl (cA, n, .inr (.inr (.inl f))))) (ht : tys[t0]? = some (cA, .float)) {i : Int32} (hout : ¬ vp_in i n) (hdg : decode cc pc = .ok (.faload, 1))
    (k : ∀ tx : String, tx = (toString "Index " ++ toString i ++ toString " out of bounds for length " ++ toString n : String) → vx_Note p l e R s m args below meth c H locs cells slots Q (F0 m pc ls rest) "java/lang/ArrayIndexOutOfBoundsException" tx) : W p l e R s m args below meth c H locs cells slots Q (F0 m pc ls (.int i :: .ref a :: rest)) := by
  intro T hT X
  obtain ⟨t, st, q⟩ := k _ rfl T hT X
  refine ⟨t, ?_, q⟩
  have h1 := X.faloadOut hexec (by rw [hT]; exact hP q0 _ ha) ((hK.2 t0 _ ht).1 n (fun j => .float (f j))) (j := i) (by show (i < 0 ∨ (arrV _ _ _).slots.size ≤ _); rw [arrV_size]; exact Classical.byContradiction hout) (g := F0 m pc ls (.int i :: .ref a :: rest)) rfl (rest := rest) rfl (by rw [hb]; exact hdg) t
  simp only [arrV_size] at h1
  exact h1 st
theorem vx_fastZ {D : va_G} {cl : List vw_C} {ws : va_W} {tys : List (ClassId × FieldType)} {a : Nat} (hexec : p.tables.exec = Jvm.exec) (hb : c.code = cc) (hK : va_K D cl tys s) (hP : va_P D cl ws H) (q0 t0 : Nat) {cA : ClassId} {n : Nat} {f : Nat → UInt32} (ha : ws[q0]? = some (a, .inl (cA, n, .inr (.inr (.inl f))))) (ht : tys[t0]? = some (cA, .float)) {i : Int32} {x : UInt32} (hout : ¬ vp_in i n) (hdg : decode cc pc = .ok (.fastore, 1))
    (k : ∀ tx : String, tx = (toString "Index " ++ toString i ++ toString " out of bounds for length " ++ toString n : String) → vx_Note p l e R s m args below meth c H locs cells slots Q (F0 m pc ls rest) "java/lang/ArrayIndexOutOfBoundsException" tx) : W p l e R s m args below meth c H locs cells slots Q (F0 m pc ls (.float x :: .int i :: .ref a :: rest)) := by
  intro T hT X
  obtain ⟨t, st, q⟩ := k _ rfl T hT X
  refine ⟨t, ?_, q⟩
  have h1 := X.fastoreOut hexec (by rw [hT]; exact hP q0 _ ha) ((hK.2 t0 _ ht).1 n (fun j => .float (f j))) (j := i) (by show (i < 0 ∨ (arrV _ _ _).slots.size ≤ _); rw [arrV_size]; exact Classical.byContradiction hout) (g := F0 m pc ls (.float x :: .int i :: .ref a :: rest)) rfl (rest := rest) rfl (by rw [hb]; exact hdg) t
  simp only [arrV_size] at h1
  exact h1 st
theorem vx_daldZ {D : va_G} {cl : List vw_C} {ws : va_W} {tys : List (ClassId × FieldType)} {a : Nat} (hexec : p.tables.exec = Jvm.exec) (hb : c.code = cc) (hK : va_K D cl tys s) (hP : va_P D cl ws H) (q0 t0 : Nat) {cA : ClassId} {n : Nat} {f : Nat → UInt64} (ha : ws[q0]? = some (a, .inl (cA, n, .inr (.inr (.inr (.inl f)))))) (ht : tys[t0]? = some (cA, .double)) {i : Int32} (hout : ¬ vp_in i n) (hdg : decode cc pc = .ok (.daload, 1))
    (k : ∀ tx : String, tx = (toString "Index " ++ toString i ++ toString " out of bounds for length " ++ toString n : String) → vx_Note p l e R s m args below meth c H locs cells slots Q (F0 m pc ls rest) "java/lang/ArrayIndexOutOfBoundsException" tx) : W p l e R s m args below meth c H locs cells slots Q (F0 m pc ls (.int i :: .ref a :: rest)) := by
  intro T hT X
  obtain ⟨t, st, q⟩ := k _ rfl T hT X
  refine ⟨t, ?_, q⟩
  have h1 := X.daloadOut hexec (by rw [hT]; exact hP q0 _ ha) ((hK.2 t0 _ ht).1 n (fun j => .double (f j))) (j := i) (by show (i < 0 ∨ (arrV _ _ _).slots.size ≤ _); rw [arrV_size]; exact Classical.byContradiction hout) (g := F0 m pc ls (.int i :: .ref a :: rest)) rfl (rest := rest) rfl (by rw [hb]; exact hdg) t
  simp only [arrV_size] at h1
  exact h1 st
theorem vx_dastZ {D : va_G} {cl : List vw_C} {ws : va_W} {tys : List (ClassId × FieldType)} {a : Nat} (hexec : p.tables.exec = Jvm.exec) (hb : c.code = cc) (hK : va_K D cl tys s) (hP : va_P D cl ws H) (q0 t0 : Nat) {cA : ClassId} {n : Nat} {f : Nat → UInt64} (ha : ws[q0]? = some (a, .inl (cA, n, .inr (.inr (.inr (.inl f)))))) (ht : tys[t0]? = some (cA, .double)) {i : Int32} {x : UInt64} (hout : ¬ vp_in i n) (hdg : decode cc pc = .ok (.dastore, 1))
    (k : ∀ tx : String, tx = (toString "Index " ++ toString i ++ toString " out of bounds for length " ++ toString n : String) → vx_Note p l e R s m args below meth c H locs cells slots Q (F0 m pc ls rest) "java/lang/ArrayIndexOutOfBoundsException" tx) : W p l e R s m args below meth c H locs cells slots Q (F0 m pc ls (.double x :: .int i :: .ref a :: rest)) := by
  intro T hT X
  obtain ⟨t, st, q⟩ := k _ rfl T hT X
  refine ⟨t, ?_, q⟩
  have h1 := X.dastoreOut hexec (by rw [hT]; exact hP q0 _ ha) ((hK.2 t0 _ ht).1 n (fun j => .double (f j))) (j := i) (by show (i < 0 ∨ (arrV _ _ _).slots.size ≤ _); rw [arrV_size]; exact Classical.byContradiction hout) (g := F0 m pc ls (.double x :: .int i :: .ref a :: rest)) rfl (rest := rest) rfl (by rw [hb]; exact hdg) t
  simp only [arrV_size] at h1
  exact h1 st
theorem vx_arraylengthN (hexec : p.tables.exec = Jvm.exec) (hb : c.code = cc) (hdg : decode cc pc = .ok (.arraylength, 1)) (k : vx_NoteN p l e R s m args below meth c H locs cells slots Q (F0 m pc ls rest)) : W p l e R s m args below meth c H locs cells slots Q (F0 m pc ls (.null :: rest)) := by
  intro T hT X
  obtain ⟨t, st, q⟩ := k T hT X
  exact ⟨t, X.arraylengthNull hexec (g := F0 m pc ls (.null :: rest)) rfl (rest := rest) rfl (by rw [hb]; exact hdg) t st, q⟩
theorem vx_ialoadN (hexec : p.tables.exec = Jvm.exec) (hb : c.code = cc) {i : Int32} (hdg : decode cc pc = .ok (.iaload, 1)) (k : vx_NoteN p l e R s m args below meth c H locs cells slots Q (F0 m pc ls rest)) : W p l e R s m args below meth c H locs cells slots Q (F0 m pc ls (.int i :: .null :: rest)) := by
  intro T hT X
  obtain ⟨t, st, q⟩ := k T hT X
  exact ⟨t, X.ialoadNull hexec (g := F0 m pc ls (.int i :: .null :: rest)) rfl (rest := rest) rfl (by rw [hb]; exact hdg) t st, q⟩
theorem vx_laloadN (hexec : p.tables.exec = Jvm.exec) (hb : c.code = cc) {i : Int32} (hdg : decode cc pc = .ok (.laload, 1)) (k : vx_NoteN p l e R s m args below meth c H locs cells slots Q (F0 m pc ls rest)) : W p l e R s m args below meth c H locs cells slots Q (F0 m pc ls (.int i :: .null :: rest)) := by
  intro T hT X
  obtain ⟨t, st, q⟩ := k T hT X
  exact ⟨t, X.laloadNull hexec (g := F0 m pc ls (.int i :: .null :: rest)) rfl (rest := rest) rfl (by rw [hb]; exact hdg) t st, q⟩
theorem vx_faloadN (hexec : p.tables.exec = Jvm.exec) (hb : c.code = cc) {i : Int32} (hdg : decode cc pc = .ok (.faload, 1)) (k : vx_NoteN p l e R s m args below meth c H locs cells slots Q (F0 m pc ls rest)) : W p l e R s m args below meth c H locs cells slots Q (F0 m pc ls (.int i :: .null :: rest)) := by
  intro T hT X
  obtain ⟨t, st, q⟩ := k T hT X
  exact ⟨t, X.faloadNull hexec (g := F0 m pc ls (.int i :: .null :: rest)) rfl (rest := rest) rfl (by rw [hb]; exact hdg) t st, q⟩
theorem vx_daloadN (hexec : p.tables.exec = Jvm.exec) (hb : c.code = cc) {i : Int32} (hdg : decode cc pc = .ok (.daload, 1)) (k : vx_NoteN p l e R s m args below meth c H locs cells slots Q (F0 m pc ls rest)) : W p l e R s m args below meth c H locs cells slots Q (F0 m pc ls (.int i :: .null :: rest)) := by
  intro T hT X
  obtain ⟨t, st, q⟩ := k T hT X
  exact ⟨t, X.daloadNull hexec (g := F0 m pc ls (.int i :: .null :: rest)) rfl (rest := rest) rfl (by rw [hb]; exact hdg) t st, q⟩
theorem vx_aaloadN (hexec : p.tables.exec = Jvm.exec) (hb : c.code = cc) {i : Int32} (hdg : decode cc pc = .ok (.aaload, 1)) (k : vx_NoteN p l e R s m args below meth c H locs cells slots Q (F0 m pc ls rest)) : W p l e R s m args below meth c H locs cells slots Q (F0 m pc ls (.int i :: .null :: rest)) := by
  intro T hT X
  obtain ⟨t, st, q⟩ := k T hT X
  exact ⟨t, X.aaloadNull hexec (g := F0 m pc ls (.int i :: .null :: rest)) rfl (rest := rest) rfl (by rw [hb]; exact hdg) t st, q⟩
theorem vx_baloadN (hexec : p.tables.exec = Jvm.exec) (hb : c.code = cc) {i : Int32} (hdg : decode cc pc = .ok (.baload, 1)) (k : vx_NoteN p l e R s m args below meth c H locs cells slots Q (F0 m pc ls rest)) : W p l e R s m args below meth c H locs cells slots Q (F0 m pc ls (.int i :: .null :: rest)) := by
  intro T hT X
  obtain ⟨t, st, q⟩ := k T hT X
  exact ⟨t, X.baloadNull hexec (g := F0 m pc ls (.int i :: .null :: rest)) rfl (rest := rest) rfl (by rw [hb]; exact hdg) t st, q⟩
theorem vx_caloadN (hexec : p.tables.exec = Jvm.exec) (hb : c.code = cc) {i : Int32} (hdg : decode cc pc = .ok (.caload, 1)) (k : vx_NoteN p l e R s m args below meth c H locs cells slots Q (F0 m pc ls rest)) : W p l e R s m args below meth c H locs cells slots Q (F0 m pc ls (.int i :: .null :: rest)) := by
  intro T hT X
  obtain ⟨t, st, q⟩ := k T hT X
  exact ⟨t, X.caloadNull hexec (g := F0 m pc ls (.int i :: .null :: rest)) rfl (rest := rest) rfl (by rw [hb]; exact hdg) t st, q⟩
theorem vx_saloadN (hexec : p.tables.exec = Jvm.exec) (hb : c.code = cc) {i : Int32} (hdg : decode cc pc = .ok (.saload, 1)) (k : vx_NoteN p l e R s m args below meth c H locs cells slots Q (F0 m pc ls rest)) : W p l e R s m args below meth c H locs cells slots Q (F0 m pc ls (.int i :: .null :: rest)) := by
  intro T hT X
  obtain ⟨t, st, q⟩ := k T hT X
  exact ⟨t, X.saloadNull hexec (g := F0 m pc ls (.int i :: .null :: rest)) rfl (rest := rest) rfl (by rw [hb]; exact hdg) t st, q⟩
theorem vx_iastoreN (hexec : p.tables.exec = Jvm.exec) (hb : c.code = cc) {x : Int32} {i : Int32} (hdg : decode cc pc = .ok (.iastore, 1)) (k : vx_NoteN p l e R s m args below meth c H locs cells slots Q (F0 m pc ls rest)) : W p l e R s m args below meth c H locs cells slots Q (F0 m pc ls (.int x :: .int i :: .null :: rest)) := by
  intro T hT X
  obtain ⟨t, st, q⟩ := k T hT X
  exact ⟨t, X.iastoreNull hexec (g := F0 m pc ls (.int x :: .int i :: .null :: rest)) rfl (rest := rest) rfl (by rw [hb]; exact hdg) t st, q⟩
theorem vx_lastoreN (hexec : p.tables.exec = Jvm.exec) (hb : c.code = cc) {x : Int64} {i : Int32} (hdg : decode cc pc = .ok (.lastore, 1)) (k : vx_NoteN p l e R s m args below meth c H locs cells slots Q (F0 m pc ls rest)) : W p l e R s m args below meth c H locs cells slots Q (F0 m pc ls (.long x :: .int i :: .null :: rest)) := by
  intro T hT X
  obtain ⟨t, st, q⟩ := k T hT X
  exact ⟨t, X.lastoreNull hexec (g := F0 m pc ls (.long x :: .int i :: .null :: rest)) rfl (rest := rest) rfl (by rw [hb]; exact hdg) t st, q⟩
theorem vx_fastoreN (hexec : p.tables.exec = Jvm.exec) (hb : c.code = cc) {x : UInt32} {i : Int32} (hdg : decode cc pc = .ok (.fastore, 1)) (k : vx_NoteN p l e R s m args below meth c H locs cells slots Q (F0 m pc ls rest)) : W p l e R s m args below meth c H locs cells slots Q (F0 m pc ls (.float x :: .int i :: .null :: rest)) := by
  intro T hT X
  obtain ⟨t, st, q⟩ := k T hT X
  exact ⟨t, X.fastoreNull hexec (g := F0 m pc ls (.float x :: .int i :: .null :: rest)) rfl (rest := rest) rfl (by rw [hb]; exact hdg) t st, q⟩
theorem vx_dastoreN (hexec : p.tables.exec = Jvm.exec) (hb : c.code = cc) {x : UInt64} {i : Int32} (hdg : decode cc pc = .ok (.dastore, 1)) (k : vx_NoteN p l e R s m args below meth c H locs cells slots Q (F0 m pc ls rest)) : W p l e R s m args below meth c H locs cells slots Q (F0 m pc ls (.double x :: .int i :: .null :: rest)) := by
  intro T hT X
  obtain ⟨t, st, q⟩ := k T hT X
  exact ⟨t, X.dastoreNull hexec (g := F0 m pc ls (.double x :: .int i :: .null :: rest)) rfl (rest := rest) rfl (by rw [hb]; exact hdg) t st, q⟩
theorem vx_bastoreN (hexec : p.tables.exec = Jvm.exec) (hb : c.code = cc) {x : Int32} {i : Int32} (hdg : decode cc pc = .ok (.bastore, 1)) (k : vx_NoteN p l e R s m args below meth c H locs cells slots Q (F0 m pc ls rest)) : W p l e R s m args below meth c H locs cells slots Q (F0 m pc ls (.int x :: .int i :: .null :: rest)) := by
  intro T hT X
  obtain ⟨t, st, q⟩ := k T hT X
  exact ⟨t, X.bastoreNull hexec (g := F0 m pc ls (.int x :: .int i :: .null :: rest)) rfl (rest := rest) rfl (by rw [hb]; exact hdg) t st, q⟩
theorem vx_castoreN (hexec : p.tables.exec = Jvm.exec) (hb : c.code = cc) {x : Int32} {i : Int32} (hdg : decode cc pc = .ok (.castore, 1)) (k : vx_NoteN p l e R s m args below meth c H locs cells slots Q (F0 m pc ls rest)) : W p l e R s m args below meth c H locs cells slots Q (F0 m pc ls (.int x :: .int i :: .null :: rest)) := by
  intro T hT X
  obtain ⟨t, st, q⟩ := k T hT X
  exact ⟨t, X.castoreNull hexec (g := F0 m pc ls (.int x :: .int i :: .null :: rest)) rfl (rest := rest) rfl (by rw [hb]; exact hdg) t st, q⟩
theorem vx_sastoreN (hexec : p.tables.exec = Jvm.exec) (hb : c.code = cc) {x : Int32} {i : Int32} (hdg : decode cc pc = .ok (.sastore, 1)) (k : vx_NoteN p l e R s m args below meth c H locs cells slots Q (F0 m pc ls rest)) : W p l e R s m args below meth c H locs cells slots Q (F0 m pc ls (.int x :: .int i :: .null :: rest)) := by
  intro T hT X
  obtain ⟨t, st, q⟩ := k T hT X
  exact ⟨t, X.sastoreNull hexec (g := F0 m pc ls (.int x :: .int i :: .null :: rest)) rfl (rest := rest) rfl (by rw [hb]; exact hdg) t st, q⟩
theorem vx_invokeN {own C : String} {index maxL : Nat} {y : MethodName} {bytes : ByteArray} {ret : Option FieldType} (hexec : p.tables.exec = Jvm.exec) (hb : c.code = cc) (hown : s.vm.findClass own = some m.cls) (hlink : (Cond.methodLink own index y).before args s = true) (hinst : (Cond.instanceMethod y).before args s = true) (hcode : (Cond.code y bytes maxL ret).before args s = true) (hsel : (Cond.selects C y y).before args s = true)
    (hx : y.cls ≠ "java/lang/invoke/MethodHandle" ∧ y.cls ≠ "java/lang/invoke/VarHandle") {As : List Value} (hlen : (parseMethodDescriptor y.desc).map (fun d => d.parameters.length) = some As.length) (hdg : decode cc pc = .ok (.invokevirtual index, 3))
    (k : vx_NoteN p l e R s m args below meth c H locs cells slots Q (F0 m pc ls rest)) {st0 : List Value} (hst : st0 = As.reverse ++ .null :: rest) : W p l e R s m args below meth c H locs cells slots Q (F0 m pc ls st0) := by
  intro T hT X
  obtain ⟨r0, r, hn, hrm, hstR, hsigR⟩ := va_Decl.of hinst hcode
  obtain ⟨c2, r2, m2, q1, q2, q3, q4, kP, hkP, hkPi⟩ := Cond.selects_spec hsel
  cases hn.symm.trans q3
  have hl9 : As.length = r.sig.parameters.length := by
    rw [hsigR] at hlen
    exact (Option.some.inj hlen).symm
  obtain ⟨vm', X1, st1⟩ := X.invokevirtualNull hexec hown hlink hn hrm hstR hkP hkPi hx (g := F0 m pc ls st0) rfl (argsL := As) (rest := rest) hl9 hst (by rw [hb]; exact hdg)
  obtain ⟨t, st, q⟩ := k (T.setVm vm') hT X1
  exact ⟨t, st1 t st, q⟩
theorem vx_newarrayZ {atype : ArrayType} (hexec : p.tables.exec = Jvm.exec) (hb : c.code = cc) {n : Int32} (h0 : n < 0) (hdg : decode cc pc = .ok (.newarray atype, 2)) (k : ∀ tx : String, tx = toString n → vx_Note p l e R s m args below meth c H locs cells slots Q (F0 m pc ls rest) "java/lang/NegativeArraySizeException" tx) : W p l e R s m args below meth c H locs cells slots Q (F0 m pc ls (.int n :: rest)) := by
  intro T hT X
  obtain ⟨t, st, q⟩ := k _ rfl T hT X
  exact ⟨t, X.newarrayNegative hexec (g := F0 m pc ls (.int n :: rest)) rfl h0 (rest := rest) rfl (by rw [hb]; exact hdg) t st, q⟩
end
end VXM
/-! ===== END ===== -/
end
section
def RX0 : String := "ParkingRobot$CommandText"
def TX0 : u_T := fun k => match k with
  | 0 => ("ParkingRobot$CommandText", "letters", "[C", true)
  | 1 => ("ParkingRobot$CommandText", "kinds", "[C", true)
  | 2 => ("ParkingRobot$CommandText", "sizes", "[I", true)
  | 3 => ("ParkingRobot$CommandText", "numbers", "[I", true)
  | 4 => ("ParkingRobot$CommandText", "length", "I", false)
  | 5 => ("ParkingRobot$CommandText", "position", "I", false)
  | _ => ("ParkingRobot$CommandText", "commands", "I", false)
def tyX0 : Nat → FieldType := fun k => match k with
  | 0 => .array .char
  | 1 => .array .char
  | 2 => .array .int
  | 3 => .array .int
  | 4 => .int
  | 5 => .int
  | _ => .int
abbrev wsX00 : List Cond := u_ws RX0 TX0 7
theorem nmX0 : ∀ a, a < 7 → ∀ b, b < 7 → a ≠ b → (TX0 a).2.1 ≠ (TX0 b).2.1 := by decide +kernel
theorem tyX0_ok : ∀ k, k < 7 → parseFieldDescriptor (TX0 k).2.2.1 = some (tyX0 k) := by decide +kernel
abbrev cX0_init : ByteArray := prog_2_method_1_code
def yX0_init : MethodName := ⟨RX0, "<init>", "()V"⟩
abbrev cX0_length : ByteArray := prog_2_method_2_code
def yX0_length : MethodName := ⟨RX0, "length", "()I"⟩
abbrev cX0_append : ByteArray := prog_2_method_3_code
def yX0_append : MethodName := ⟨RX0, "append", "(C)Z"⟩
abbrev cX0_empty : ByteArray := prog_2_method_4_code
def yX0_empty : MethodName := ⟨RX0, "empty", "()V"⟩
abbrev cX0_commands : ByteArray := prog_2_method_5_code
def yX0_commands : MethodName := ⟨RX0, "commands", "()I"⟩
abbrev cX0_kindOf : ByteArray := prog_2_method_6_code
def yX0_kindOf : MethodName := ⟨RX0, "kindOf", "(I)C"⟩
abbrev cX0_sizeOf : ByteArray := prog_2_method_7_code
def yX0_sizeOf : MethodName := ⟨RX0, "sizeOf", "(I)I"⟩
abbrev cX0_numberOf : ByteArray := prog_2_method_8_code
def yX0_numberOf : MethodName := ⟨RX0, "numberOf", "(I)I"⟩
abbrev cX0_parse : ByteArray := prog_2_method_9_code
def yX0_parse : MethodName := ⟨RX0, "parse", "()I"⟩
abbrev cX0_readCommand : ByteArray := prog_2_method_10_code
def yX0_readCommand : MethodName := ⟨RX0, "readCommand", "(I)Z"⟩
abbrev cX0_readSize : ByteArray := prog_2_method_11_code
def yX0_readSize : MethodName := ⟨RX0, "readSize", "(I)Z"⟩
abbrev cX0_readNumber : ByteArray := prog_2_method_12_code
def yX0_readNumber : MethodName := ⟨RX0, "readNumber", "(I)Z"⟩
abbrev cX0_readLetter : ByteArray := prog_2_method_13_code
def yX0_readLetter : MethodName := ⟨RX0, "readLetter", "(C)Z"⟩
abbrev cX0_letterHere : ByteArray := prog_2_method_14_code
def yX0_letterHere : MethodName := ⟨RX0, "letterHere", "()I"⟩
def RX1 : String := "ParkingRobot$Garage"
def TX1 : u_T := fun k => match k with
  | 0 => ("ParkingRobot$Garage", "isClosed", "[Z", true)
  | 1 => ("ParkingRobot$Garage", "carIn", "[I", true)
  | 2 => ("ParkingRobot$Garage", "sizes", "[I", true)
  | 3 => ("ParkingRobot$Garage", "pickups", "[I", true)
  | 4 => ("ParkingRobot$Garage", "bays", "[I", true)
  | 5 => ("ParkingRobot$Garage", "jobs", "[I", true)
  | 6 => ("ParkingRobot$Garage", "carsToFree", "[I", true)
  | 7 => ("ParkingRobot$Garage", "plant", "LParkingRobot$Plant;", true)
  | 8 => ("ParkingRobot$Garage", "came", "I", false)
  | 9 => ("ParkingRobot$Garage", "stored", "I", false)
  | _ => ("ParkingRobot$Garage", "moved", "I", false)
def tyX1 : Nat → FieldType := fun k => match k with
  | 0 => .array .boolean
  | 1 => .array .int
  | 2 => .array .int
  | 3 => .array .int
  | 4 => .array .int
  | 5 => .array .int
  | 6 => .array .int
  | 7 => .object "ParkingRobot$Plant"
  | 8 => .int
  | 9 => .int
  | _ => .int
abbrev wsX10 : List Cond := u_ws RX1 TX1 11
theorem nmX1 : ∀ a, a < 11 → ∀ b, b < 11 → a ≠ b → (TX1 a).2.1 ≠ (TX1 b).2.1 := by decide +kernel
theorem tyX1_ok : ∀ k, k < 11 → parseFieldDescriptor (TX1 k).2.2.1 = some (tyX1 k) := by decide +kernel
abbrev cX1_init : ByteArray := prog_3_method_1_code
def yX1_init : MethodName := ⟨RX1, "<init>", "()V"⟩
abbrev cX1_copyFrom : ByteArray := prog_3_method_2_code
def yX1_copyFrom : MethodName := ⟨RX1, "copyFrom", "(LParkingRobot$Garage;)V"⟩
abbrev cX1_time : ByteArray := prog_3_method_3_code
def yX1_time : MethodName := ⟨RX1, "time", "()I"⟩
abbrev cX1_log : ByteArray := prog_3_method_4_code
def yX1_log : MethodName := ⟨RX1, "log", "()LParkingRobot$JobLog;"⟩
abbrev cX1_machineOf : ByteArray := prog_3_method_5_code
def yX1_machineOf : MethodName := ⟨RX1, "machineOf", "(I)LParkingRobot$Machine;"⟩
abbrev cX1_came : ByteArray := prog_3_method_6_code
def yX1_came : MethodName := ⟨RX1, "came", "()I"⟩
abbrev cX1_moved : ByteArray := prog_3_method_7_code
def yX1_moved : MethodName := ⟨RX1, "moved", "()I"⟩
abbrev cX1_countStored : ByteArray := prog_3_method_8_code
def yX1_countStored : MethodName := ⟨RX1, "countStored", "()I"⟩
abbrev cX1_isFull : ByteArray := prog_3_method_9_code
def yX1_isFull : MethodName := ⟨RX1, "isFull", "()Z"⟩
abbrev cX1_isStored : ByteArray := prog_3_method_10_code
def yX1_isStored : MethodName := ⟨RX1, "isStored", "(I)Z"⟩
abbrev cX1_sizeOf : ByteArray := prog_3_method_11_code
def yX1_sizeOf : MethodName := ⟨RX1, "sizeOf", "(I)I"⟩
abbrev cX1_pickupOf : ByteArray := prog_3_method_12_code
def yX1_pickupOf : MethodName := ⟨RX1, "pickupOf", "(I)I"⟩
abbrev cX1_bayOf : ByteArray := prog_3_method_13_code
def yX1_bayOf : MethodName := ⟨RX1, "bayOf", "(I)I"⟩
abbrev cX1_jobsOf : ByteArray := prog_3_method_14_code
def yX1_jobsOf : MethodName := ⟨RX1, "jobsOf", "(I)I"⟩
abbrev cX1_blockerOf : ByteArray := prog_3_method_15_code
def yX1_blockerOf : MethodName := ⟨RX1, "blockerOf", "(I)I"⟩
abbrev cX1_isClosed : ByteArray := prog_3_method_16_code
def yX1_isClosed : MethodName := ⟨RX1, "isClosed", "(I)Z"⟩
abbrev cX1_carIn : ByteArray := prog_3_method_17_code
def yX1_carIn : MethodName := ⟨RX1, "carIn", "(I)I"⟩
abbrev cX1_carBefore : ByteArray := prog_3_method_18_code
def yX1_carBefore : MethodName := ⟨RX1, "carBefore", "(I)I"⟩
abbrev cX1_storedUntil : ByteArray := prog_3_method_19_code
def yX1_storedUntil : MethodName := ⟨RX1, "storedUntil", "(I)J"⟩
abbrev cX1_blockedCars : ByteArray := prog_3_method_20_code
def yX1_blockedCars : MethodName := ⟨RX1, "blockedCars", "(Z)J"⟩
abbrev cX1_countOpenWithoutCar : ByteArray := prog_3_method_21_code
def yX1_countOpenWithoutCar : MethodName := ⟨RX1, "countOpenWithoutCar", "(Z)I"⟩
abbrev cX1_countClosed : ByteArray := prog_3_method_22_code
def yX1_countClosed : MethodName := ⟨RX1, "countClosed", "()I"⟩
abbrev cX1_listByPickup : ByteArray := prog_3_method_23_code
def yX1_listByPickup : MethodName := ⟨RX1, "listByPickup", "(J[I)I"⟩
abbrev cX1_chooseBay : ByteArray := prog_3_method_24_code
def yX1_chooseBay : MethodName := ⟨RX1, "chooseBay", "(III)I"⟩
abbrev cX1_isBad : ByteArray := prog_3_method_25_code
def yX1_isBad : MethodName := ⟨RX1, "isBad", "(II)Z"⟩
abbrev cX1_bayToFlee : ByteArray := prog_3_method_26_code
def yX1_bayToFlee : MethodName := ⟨RX1, "bayToFlee", "(I)I"⟩
abbrev cX1_letPass : ByteArray := prog_3_method_27_code
def yX1_letPass : MethodName := ⟨RX1, "letPass", "(I)Z"⟩
abbrev cX1_changeClosed : ByteArray := prog_3_method_28_code
def yX1_changeClosed : MethodName := ⟨RX1, "changeClosed", "(IZ)Z"⟩
abbrev cX1_changePickup : ByteArray := prog_3_method_29_code
def yX1_changePickup : MethodName := ⟨RX1, "changePickup", "(II)I"⟩
abbrev cX1_takeIn : ByteArray := prog_3_method_30_code
def yX1_takeIn : MethodName := ⟨RX1, "takeIn", "(II)I"⟩
abbrev cX1_fetch : ByteArray := prog_3_method_31_code
def yX1_fetch : MethodName := ⟨RX1, "fetch", "(I)I"⟩
abbrev cX1_takeOut : ByteArray := prog_3_method_32_code
def yX1_takeOut : MethodName := ⟨RX1, "takeOut", "(I)V"⟩
abbrev cX1_moveCar : ByteArray := prog_3_method_33_code
def yX1_moveCar : MethodName := ⟨RX1, "moveCar", "(II)V"⟩
abbrev cX1_tidyUp : ByteArray := prog_3_method_34_code
def yX1_tidyUp : MethodName := ⟨RX1, "tidyUp", "()I"⟩
abbrev cX1_freeFromLater : ByteArray := prog_3_method_35_code
def yX1_freeFromLater : MethodName := ⟨RX1, "freeFromLater", "(I)V"⟩
def RX2 : String := "ParkingRobot$History"
def TX2 : u_T := fun k => match k with
  | 0 => ("ParkingRobot$History", "copies", "[LParkingRobot$Garage;", true)
  | 1 => ("ParkingRobot$History", "next", "I", false)
  | _ => ("ParkingRobot$History", "count", "I", false)
def tyX2 : Nat → FieldType := fun k => match k with
  | 0 => .array (.object "ParkingRobot$Garage")
  | 1 => .int
  | _ => .int
abbrev wsX20 : List Cond := u_ws RX2 TX2 3
theorem nmX2 : ∀ a, a < 3 → ∀ b, b < 3 → a ≠ b → (TX2 a).2.1 ≠ (TX2 b).2.1 := by decide +kernel
theorem tyX2_ok : ∀ k, k < 3 → parseFieldDescriptor (TX2 k).2.2.1 = some (tyX2 k) := by decide +kernel
abbrev cX2_init : ByteArray := prog_4_method_1_code
def yX2_init : MethodName := ⟨RX2, "<init>", "()V"⟩
abbrev cX2_count : ByteArray := prog_4_method_2_code
def yX2_count : MethodName := ⟨RX2, "count", "()I"⟩
abbrev cX2_draft : ByteArray := prog_4_method_3_code
def yX2_draft : MethodName := ⟨RX2, "draft", "(LParkingRobot$Garage;)V"⟩
abbrev cX2_keepDraft : ByteArray := prog_4_method_4_code
def yX2_keepDraft : MethodName := ⟨RX2, "keepDraft", "()V"⟩
abbrev cX2_returnToDraft : ByteArray := prog_4_method_5_code
def yX2_returnToDraft : MethodName := ⟨RX2, "returnToDraft", "(LParkingRobot$Garage;)V"⟩
abbrev cX2_takeBack : ByteArray := prog_4_method_6_code
def yX2_takeBack : MethodName := ⟨RX2, "takeBack", "(LParkingRobot$Garage;)V"⟩
abbrev cX2_clear : ByteArray := prog_4_method_7_code
def yX2_clear : MethodName := ⟨RX2, "clear", "()V"⟩
def RX3 : String := "ParkingRobot$JobLog"
def TX3 : u_T := fun k => match k with
  | 0 => ("ParkingRobot$JobLog", "rows", "[I", true)
  | 1 => ("ParkingRobot$JobLog", "total", "I", false)
  | 2 => ("ParkingRobot$JobLog", "minutes", "I", false)
  | _ => ("ParkingRobot$JobLog", "greatestEnd", "I", false)
def tyX3 : Nat → FieldType := fun k => match k with
  | 0 => .array .int
  | 1 => .int
  | 2 => .int
  | _ => .int
abbrev wsX30 : List Cond := u_ws RX3 TX3 4
theorem nmX3 : ∀ a, a < 4 → ∀ b, b < 4 → a ≠ b → (TX3 a).2.1 ≠ (TX3 b).2.1 := by decide +kernel
theorem tyX3_ok : ∀ k, k < 4 → parseFieldDescriptor (TX3 k).2.2.1 = some (tyX3 k) := by decide +kernel
abbrev cX3_init : ByteArray := prog_5_method_1_code
def yX3_init : MethodName := ⟨RX3, "<init>", "()V"⟩
abbrev cX3_copyFrom : ByteArray := prog_5_method_2_code
def yX3_copyFrom : MethodName := ⟨RX3, "copyFrom", "(LParkingRobot$JobLog;)V"⟩
abbrev cX3_total : ByteArray := prog_5_method_3_code
def yX3_total : MethodName := ⟨RX3, "total", "()I"⟩
abbrev cX3_minutes : ByteArray := prog_5_method_4_code
def yX3_minutes : MethodName := ⟨RX3, "minutes", "()I"⟩
abbrev cX3_greatestEnd : ByteArray := prog_5_method_5_code
def yX3_greatestEnd : MethodName := ⟨RX3, "greatestEnd", "()I"⟩
abbrev cX3_kept : ByteArray := prog_5_method_6_code
def yX3_kept : MethodName := ⟨RX3, "kept", "()I"⟩
abbrev cX3_add : ByteArray := prog_5_method_7_code
def yX3_add : MethodName := ⟨RX3, "add", "(IIIII)V"⟩
abbrev cX3_partOf : ByteArray := prog_5_method_8_code
def yX3_partOf : MethodName := ⟨RX3, "partOf", "(II)I"⟩
abbrev cX3_endOfLatest : ByteArray := prog_5_method_9_code
def yX3_endOfLatest : MethodName := ⟨RX3, "endOfLatest", "(I)I"⟩
def RX4 : String := "ParkingRobot$Machine"
def TX4 : u_T := fun k => match k with
  | 0 => ("ParkingRobot$Machine", "pace", "I", true)
  | 1 => ("ParkingRobot$Machine", "place", "I", false)
  | 2 => ("ParkingRobot$Machine", "freeFrom", "I", false)
  | _ => ("ParkingRobot$Machine", "minutes", "I", false)
def tyX4 : Nat → FieldType := fun k => match k with
  | 0 => .int
  | 1 => .int
  | 2 => .int
  | _ => .int
abbrev wsX40 : List Cond := u_ws RX4 TX4 4
theorem nmX4 : ∀ a, a < 4 → ∀ b, b < 4 → a ≠ b → (TX4 a).2.1 ≠ (TX4 b).2.1 := by decide +kernel
theorem tyX4_ok : ∀ k, k < 4 → parseFieldDescriptor (TX4 k).2.2.1 = some (tyX4 k) := by decide +kernel
abbrev cX4_init : ByteArray := prog_6_method_1_code
def yX4_init : MethodName := ⟨RX4, "<init>", "(I)V"⟩
abbrev cX4_copyFrom : ByteArray := prog_6_method_2_code
def yX4_copyFrom : MethodName := ⟨RX4, "copyFrom", "(LParkingRobot$Machine;)V"⟩
abbrev cX4_place : ByteArray := prog_6_method_3_code
def yX4_place : MethodName := ⟨RX4, "place", "()I"⟩
abbrev cX4_freeFrom : ByteArray := prog_6_method_4_code
def yX4_freeFrom : MethodName := ⟨RX4, "freeFrom", "()I"⟩
abbrev cX4_minutes : ByteArray := prog_6_method_5_code
def yX4_minutes : MethodName := ⟨RX4, "minutes", "()I"⟩
abbrev cX4_start : ByteArray := prog_6_method_6_code
def yX4_start : MethodName := ⟨RX4, "start", "(I)I"⟩
abbrev cX4_goTo : ByteArray := prog_6_method_7_code
def yX4_goTo : MethodName := ⟨RX4, "goTo", "(I)V"⟩
abbrev cX4_work : ByteArray := prog_6_method_8_code
def yX4_work : MethodName := ⟨RX4, "work", "(I)V"⟩
abbrev cX4_handOver : ByteArray := prog_6_method_9_code
def yX4_handOver : MethodName := ⟨RX4, "handOver", "(LParkingRobot$Machine;)V"⟩
abbrev cX4_finish : ByteArray := prog_6_method_10_code
def yX4_finish : MethodName := ⟨RX4, "finish", "()I"⟩
def RX5 : String := "ParkingRobot$Orders"
def TX5 : u_T := fun k => match k with
  | 0 => ("ParkingRobot$Orders", "steps", "[LParkingRobot$Garage;", true)
  | 1 => ("ParkingRobot$Orders", "cars", "[I", true)
  | 2 => ("ParkingRobot$Orders", "tried", "[I", true)
  | 3 => ("ParkingRobot$Orders", "best", "[I", true)
  | 4 => ("ParkingRobot$Orders", "count", "I", false)
  | 5 => ("ParkingRobot$Orders", "jobsBefore", "I", false)
  | 6 => ("ParkingRobot$Orders", "bestMoves", "I", false)
  | _ => ("ParkingRobot$Orders", "bestEnd", "I", false)
def tyX5 : Nat → FieldType := fun k => match k with
  | 0 => .array (.object "ParkingRobot$Garage")
  | 1 => .array .int
  | 2 => .array .int
  | 3 => .array .int
  | 4 => .int
  | 5 => .int
  | 6 => .int
  | _ => .int
abbrev wsX50 : List Cond := u_ws RX5 TX5 8
theorem nmX5 : ∀ a, a < 8 → ∀ b, b < 8 → a ≠ b → (TX5 a).2.1 ≠ (TX5 b).2.1 := by decide +kernel
theorem tyX5_ok : ∀ k, k < 8 → parseFieldDescriptor (TX5 k).2.2.1 = some (tyX5 k) := by decide +kernel
abbrev cX5_init : ByteArray := prog_7_method_1_code
def yX5_init : MethodName := ⟨RX5, "<init>", "()V"⟩
abbrev cX5_movesOfBest : ByteArray := prog_7_method_2_code
def yX5_movesOfBest : MethodName := ⟨RX5, "movesOfBest", "()I"⟩
abbrev cX5_endOfBest : ByteArray := prog_7_method_3_code
def yX5_endOfBest : MethodName := ⟨RX5, "endOfBest", "()I"⟩
abbrev cX5_carOfBest : ByteArray := prog_7_method_4_code
def yX5_carOfBest : MethodName := ⟨RX5, "carOfBest", "(I)I"⟩
abbrev cX5_findBest : ByteArray := prog_7_method_5_code
def yX5_findBest : MethodName := ⟨RX5, "findBest", "(LParkingRobot$Garage;J)Z"⟩
abbrev cX5_movesInPlainOrder : ByteArray := prog_7_method_6_code
def yX5_movesInPlainOrder : MethodName := ⟨RX5, "movesInPlainOrder", "(LParkingRobot$Garage;J)I"⟩
abbrev cX5_begin : ByteArray := prog_7_method_7_code
def yX5_begin : MethodName := ⟨RX5, "begin", "(LParkingRobot$Garage;)V"⟩
abbrev cX5_movesAt : ByteArray := prog_7_method_8_code
def yX5_movesAt : MethodName := ⟨RX5, "movesAt", "(I)I"⟩
abbrev cX5_tryFrom : ByteArray := prog_7_method_9_code
def yX5_tryFrom : MethodName := ⟨RX5, "tryFrom", "(I)V"⟩
abbrev cX5_tryNext : ByteArray := prog_7_method_10_code
def yX5_tryNext : MethodName := ⟨RX5, "tryNext", "(II)V"⟩
abbrev cX5_isTooLong : ByteArray := prog_7_method_11_code
def yX5_isTooLong : MethodName := ⟨RX5, "isTooLong", "(I)Z"⟩
abbrev cX5_judge : ByteArray := prog_7_method_12_code
def yX5_judge : MethodName := ⟨RX5, "judge", "(ILParkingRobot$JobLog;)V"⟩
def RX6 : String := "ParkingRobot$Plant"
def TX6 : u_T := fun k => match k with
  | 0 => ("ParkingRobot$Plant", "machines", "[LParkingRobot$Machine;", true)
  | 1 => ("ParkingRobot$Plant", "lift", "LParkingRobot$Machine;", true)
  | 2 => ("ParkingRobot$Plant", "log", "LParkingRobot$JobLog;", true)
  | _ => ("ParkingRobot$Plant", "time", "I", false)
def tyX6 : Nat → FieldType := fun k => match k with
  | 0 => .array (.object "ParkingRobot$Machine")
  | 1 => .object "ParkingRobot$Machine"
  | 2 => .object "ParkingRobot$JobLog"
  | _ => .int
abbrev wsX60 : List Cond := u_ws RX6 TX6 4
theorem nmX6 : ∀ a, a < 4 → ∀ b, b < 4 → a ≠ b → (TX6 a).2.1 ≠ (TX6 b).2.1 := by decide +kernel
theorem tyX6_ok : ∀ k, k < 4 → parseFieldDescriptor (TX6 k).2.2.1 = some (tyX6 k) := by decide +kernel
abbrev cX6_init : ByteArray := prog_8_method_1_code
def yX6_init : MethodName := ⟨RX6, "<init>", "()V"⟩
abbrev cX6_copyFrom : ByteArray := prog_8_method_2_code
def yX6_copyFrom : MethodName := ⟨RX6, "copyFrom", "(LParkingRobot$Plant;)V"⟩
abbrev cX6_workAt : ByteArray := prog_8_method_3_code
def yX6_workAt : MethodName := ⟨RX6, "workAt", "(I)I"⟩
abbrev cX6_bringIn : ByteArray := prog_8_method_4_code
def yX6_bringIn : MethodName := ⟨RX6, "bringIn", "(II)V"⟩
abbrev cX6_bringOut : ByteArray := prog_8_method_5_code
def yX6_bringOut : MethodName := ⟨RX6, "bringOut", "(II)V"⟩
abbrev cX6_moveOnLevel : ByteArray := prog_8_method_6_code
def yX6_moveOnLevel : MethodName := ⟨RX6, "moveOnLevel", "(III)V"⟩
abbrev cX6_moveToOtherLevel : ByteArray := prog_8_method_7_code
def yX6_moveToOtherLevel : MethodName := ⟨RX6, "moveToOtherLevel", "(III)V"⟩
def RX7 : String := "ParkingRobot"
def TX7 : u_T := fun k => match k with
  | 0 => ("ParkingRobot", "garage", "LParkingRobot$Garage;", true)
  | 1 => ("ParkingRobot", "saved", "LParkingRobot$Garage;", true)
  | 2 => ("ParkingRobot", "isSaved", "Z", false)
  | 3 => ("ParkingRobot", "history", "LParkingRobot$History;", true)
  | 4 => ("ParkingRobot", "orders", "LParkingRobot$Orders;", true)
  | 5 => ("ParkingRobot", "text", "LParkingRobot$CommandText;", true)
  | 6 => ("ParkingRobot", "reportDetails", "[I", true)
  | _ => ("ParkingRobot", "hasReport", "Z", false)
def tyX7 : Nat → FieldType := fun k => match k with
  | 0 => .object "ParkingRobot$Garage"
  | 1 => .object "ParkingRobot$Garage"
  | 2 => .boolean
  | 3 => .object "ParkingRobot$History"
  | 4 => .object "ParkingRobot$Orders"
  | 5 => .object "ParkingRobot$CommandText"
  | 6 => .array .int
  | _ => .boolean
abbrev wsX70 : List Cond := u_ws RX7 TX7 8
theorem nmX7 : ∀ a, a < 8 → ∀ b, b < 8 → a ≠ b → (TX7 a).2.1 ≠ (TX7 b).2.1 := by decide +kernel
theorem tyX7_ok : ∀ k, k < 8 → parseFieldDescriptor (TX7 k).2.2.1 = some (tyX7 k) := by decide +kernel
abbrev cX7_init : ByteArray := prog_1_method_1_code
def yX7_init : MethodName := ⟨RX7, "<init>", "()V"⟩
abbrev cX7_store : ByteArray := prog_1_method_2_code
def yX7_store : MethodName := ⟨RX7, "store", "(II)I"⟩
abbrev cX7_retrieve : ByteArray := prog_1_method_3_code
def yX7_retrieve : MethodName := ⟨RX7, "retrieve", "(I)I"⟩
abbrev cX7_book : ByteArray := prog_1_method_4_code
def yX7_book : MethodName := ⟨RX7, "book", "(II)I"⟩
abbrev cX7_car : ByteArray := prog_1_method_5_code
def yX7_car : MethodName := ⟨RX7, "car", "(II)I"⟩
abbrev cX7_due : ByteArray := prog_1_method_6_code
def yX7_due : MethodName := ⟨RX7, "due", "(I)J"⟩
abbrev cX7_setClosed : ByteArray := prog_1_method_7_code
def yX7_setClosed : MethodName := ⟨RX7, "setClosed", "(IZ)Z"⟩
abbrev cX7_bay : ByteArray := prog_1_method_8_code
def yX7_bay : MethodName := ⟨RX7, "bay", "(II)I"⟩
abbrev cX7_choice : ByteArray := prog_1_method_9_code
def yX7_choice : MethodName := ⟨RX7, "choice", "(II)I"⟩
abbrev cX7_refuge : ByteArray := prog_1_method_10_code
def yX7_refuge : MethodName := ⟨RX7, "refuge", "(I)I"⟩
abbrev cX7_bays : ByteArray := prog_1_method_11_code
def yX7_bays : MethodName := ⟨RX7, "bays", "(I)I"⟩
abbrev cX7_bestMoves : ByteArray := prog_1_method_12_code
def yX7_bestMoves : MethodName := ⟨RX7, "bestMoves", "(J)I"⟩
abbrev cX7_bestEnd : ByteArray := prog_1_method_13_code
def yX7_bestEnd : MethodName := ⟨RX7, "bestEnd", "(J)I"⟩
abbrev cX7_bestCar : ByteArray := prog_1_method_14_code
def yX7_bestCar : MethodName := ⟨RX7, "bestCar", "(JI)I"⟩
abbrev cX7_plainMoves : ByteArray := prog_1_method_15_code
def yX7_plainMoves : MethodName := ⟨RX7, "plainMoves", "(J)I"⟩
abbrev cX7_retrieveAll : ByteArray := prog_1_method_16_code
def yX7_retrieveAll : MethodName := ⟨RX7, "retrieveAll", "(J)I"⟩
abbrev cX7_tidy : ByteArray := prog_1_method_17_code
def yX7_tidy : MethodName := ⟨RX7, "tidy", "()I"⟩
abbrev cX7_pass : ByteArray := prog_1_method_18_code
def yX7_pass : MethodName := ⟨RX7, "pass", "(I)I"⟩
abbrev cX7_machine : ByteArray := prog_1_method_19_code
def yX7_machine : MethodName := ⟨RX7, "machine", "(II)I"⟩
abbrev cX7_jobs : ByteArray := prog_1_method_20_code
def yX7_jobs : MethodName := ⟨RX7, "jobs", "()I"⟩
abbrev cX7_job : ByteArray := prog_1_method_21_code
def yX7_job : MethodName := ⟨RX7, "job", "(II)I"⟩
abbrev cX7_account : ByteArray := prog_1_method_22_code
def yX7_account : MethodName := ⟨RX7, "account", "(I)I"⟩
abbrev cX7_load : ByteArray := prog_1_method_23_code
def yX7_load : MethodName := ⟨RX7, "load", "(I)F"⟩
abbrev cX7_meanJob : ByteArray := prog_1_method_24_code
def yX7_meanJob : MethodName := ⟨RX7, "meanJob", "()D"⟩
abbrev cX7_report : ByteArray := prog_1_method_25_code
def yX7_report : MethodName := ⟨RX7, "report", "(II)I"⟩
abbrev cX7_feed : ByteArray := prog_1_method_26_code
def yX7_feed : MethodName := ⟨RX7, "feed", "(C)I"⟩
abbrev cX7_perform : ByteArray := prog_1_method_27_code
def yX7_perform : MethodName := ⟨RX7, "perform", "()I"⟩
abbrev cX7_undo : ByteArray := prog_1_method_28_code
def yX7_undo : MethodName := ⟨RX7, "undo", "()I"⟩
abbrev cX7_save : ByteArray := prog_1_method_29_code
def yX7_save : MethodName := ⟨RX7, "save", "()I"⟩
abbrev cX7_restore : ByteArray := prog_1_method_30_code
def yX7_restore : MethodName := ⟨RX7, "restore", "()I"⟩
abbrev cX7_fetchOrReport : ByteArray := prog_1_method_31_code
def yX7_fetchOrReport : MethodName := ⟨RX7, "fetchOrReport", "(I)I"⟩
abbrev cX7_carryOut : ByteArray := prog_1_method_32_code
def yX7_carryOut : MethodName := ⟨RX7, "carryOut", "(CII)Z"⟩
abbrev cX7_checkSizeAndPickup : ByteArray := prog_1_method_33_code
def yX7_checkSizeAndPickup : MethodName := ⟨RX7, "checkSizeAndPickup", "(II)V"⟩
abbrev cX7_checkTime : ByteArray := prog_1_method_34_code
def yX7_checkTime : MethodName := ⟨RX7, "checkTime", "(I)V"⟩
abbrev cX7_checkStored : ByteArray := prog_1_method_35_code
def yX7_checkStored : MethodName := ⟨RX7, "checkStored", "(I)V"⟩
abbrev cX7_checkBay : ByteArray := prog_1_method_36_code
def yX7_checkBay : MethodName := ⟨RX7, "checkBay", "(I)V"⟩
abbrev cX7_checkMachine : ByteArray := prog_1_method_37_code
def yX7_checkMachine : MethodName := ⟨RX7, "checkMachine", "(I)V"⟩
abbrev cX7_checkSet : ByteArray := prog_1_method_38_code
def yX7_checkSet : MethodName := ⟨RX7, "checkSet", "(J)V"⟩
abbrev cX7_checkPossible : ByteArray := prog_1_method_39_code
def yX7_checkPossible : MethodName := ⟨RX7, "checkPossible", "(Z)V"⟩
abbrev cX7_isTime : ByteArray := prog_1_method_40_code
def yX7_isTime : MethodName := ⟨RX7, "isTime", "(I)Z"⟩
abbrev cX7_isPass : ByteArray := prog_1_method_41_code
def yX7_isPass : MethodName := ⟨RX7, "isPass", "(I)Z"⟩
abbrev cX7_isBay : ByteArray := prog_1_method_42_code
def yX7_isBay : MethodName := ⟨RX7, "isBay", "(I)Z"⟩
abbrev cX7_levelOf : ByteArray := prog_1_method_43_code
def yX7_levelOf : MethodName := ⟨RX7, "levelOf", "(I)I"⟩
abbrev cX7_sideOf : ByteArray := prog_1_method_44_code
def yX7_sideOf : MethodName := ⟨RX7, "sideOf", "(I)I"⟩
abbrev cX7_columnOf : ByteArray := prog_1_method_45_code
def yX7_columnOf : MethodName := ⟨RX7, "columnOf", "(I)I"⟩
abbrev cX7_depthOf : ByteArray := prog_1_method_46_code
def yX7_depthOf : MethodName := ⟨RX7, "depthOf", "(I)I"⟩
abbrev cX7_isWide : ByteArray := prog_1_method_47_code
def yX7_isWide : MethodName := ⟨RX7, "isWide", "(I)Z"⟩
abbrev cX7_effortToStore : ByteArray := prog_1_method_48_code
def yX7_effortToStore : MethodName := ⟨RX7, "effortToStore", "(I)I"⟩
abbrev cX7_effortToMove : ByteArray := prog_1_method_49_code
def yX7_effortToMove : MethodName := ⟨RX7, "effortToMove", "(II)I"⟩
def RX8 : String := "ParkingRobotModel"
def TX8 : u_T := fun k => match k with
  | 0 => ("ParkingRobotModel", "thrown", "I", false)
  | 1 => ("ParkingRobotModel", "now", "[I", true)
  | 2 => ("ParkingRobotModel", "before", "[I", true)
  | 3 => ("ParkingRobotModel", "thought", "[I", true)
  | 4 => ("ParkingRobotModel", "saved", "[I", true)
  | 5 => ("ParkingRobotModel", "changes", "[I", true)
  | 6 => ("ParkingRobotModel", "changed", "I", false)
  | 7 => ("ParkingRobotModel", "isSaved", "Z", false)
  | 8 => ("ParkingRobotModel", "jobBegin", "I", false)
  | 9 => ("ParkingRobotModel", "jobEnd", "I", false)
  | 10 => ("ParkingRobotModel", "refusedCar", "I", false)
  | 11 => ("ParkingRobotModel", "refusedBy", "I", false)
  | 12 => ("ParkingRobotModel", "refusedOpen", "I", false)
  | 13 => ("ParkingRobotModel", "wanted", "[I", true)
  | 14 => ("ParkingRobotModel", "row", "[I", true)
  | 15 => ("ParkingRobotModel", "best", "[I", true)
  | 16 => ("ParkingRobotModel", "many", "I", false)
  | 17 => ("ParkingRobotModel", "bestMoves", "I", false)
  | 18 => ("ParkingRobotModel", "bestEnd", "I", false)
  | 19 => ("ParkingRobotModel", "moved", "I", false)
  | 20 => ("ParkingRobotModel", "ended", "I", false)
  | 21 => ("ParkingRobotModel", "blocked", "[I", true)
  | 22 => ("ParkingRobotModel", "input", "[I", true)
  | 23 => ("ParkingRobotModel", "numbers", "[I", true)
  | 24 => ("ParkingRobotModel", "fed", "I", false)
  | 25 => ("ParkingRobotModel", "read", "I", false)
  | _ => ("ParkingRobotModel", "isError", "Z", false)
def tyX8 : Nat → FieldType := fun k => match k with
  | 0 => .int
  | 1 => .array .int
  | 2 => .array .int
  | 3 => .array .int
  | 4 => .array .int
  | 5 => .array .int
  | 6 => .int
  | 7 => .boolean
  | 8 => .int
  | 9 => .int
  | 10 => .int
  | 11 => .int
  | 12 => .int
  | 13 => .array .int
  | 14 => .array .int
  | 15 => .array .int
  | 16 => .int
  | 17 => .int
  | 18 => .int
  | 19 => .int
  | 20 => .int
  | 21 => .array .int
  | 22 => .array .int
  | 23 => .array .int
  | 24 => .int
  | 25 => .int
  | _ => .boolean
abbrev wsX80 : List Cond := u_ws RX8 TX8 27
theorem nmX8 : ∀ a, a < 27 → ∀ b, b < 27 → a ≠ b → (TX8 a).2.1 ≠ (TX8 b).2.1 := by decide +kernel
theorem tyX8_ok : ∀ k, k < 27 → parseFieldDescriptor (TX8 k).2.2.1 = some (tyX8 k) := by decide +kernel
abbrev cX8_thrown : ByteArray := prog_10_method_1_code
def yX8_thrown : MethodName := ⟨RX8, "thrown", "()I"⟩
abbrev cX8_init : ByteArray := prog_10_method_2_code
def yX8_init : MethodName := ⟨RX8, "<init>", "()V"⟩
abbrev cX8_in : ByteArray := prog_10_method_3_code
def yX8_in : MethodName := ⟨RX8, "in", "(III)Z"⟩
abbrev cX8_fails : ByteArray := prog_10_method_4_code
def yX8_fails : MethodName := ⟨RX8, "fails", "(I)I"⟩
abbrev cX8_copies : ByteArray := prog_10_method_5_code
def yX8_copies : MethodName := ⟨RX8, "copies", "([II[II)V"⟩
abbrev cX8_begins : ByteArray := prog_10_method_6_code
def yX8_begins : MethodName := ⟨RX8, "begins", "()V"⟩
abbrev cX8_ends : ByteArray := prog_10_method_7_code
def yX8_ends : MethodName := ⟨RX8, "ends", "(I)I"⟩
abbrev cX8_level : ByteArray := prog_10_method_8_code
def yX8_level : MethodName := ⟨RX8, "level", "(I)I"⟩
abbrev cX8_side : ByteArray := prog_10_method_9_code
def yX8_side : MethodName := ⟨RX8, "side", "(I)I"⟩
abbrev cX8_column : ByteArray := prog_10_method_10_code
def yX8_column : MethodName := ⟨RX8, "column", "(I)I"⟩
abbrev cX8_depth : ByteArray := prog_10_method_11_code
def yX8_depth : MethodName := ⟨RX8, "depth", "(I)I"⟩
abbrev cX8_isWide : ByteArray := prog_10_method_12_code
def yX8_isWide : MethodName := ⟨RX8, "isWide", "(I)Z"⟩
abbrev cX8_isEmpty : ByteArray := prog_10_method_13_code
def yX8_isEmpty : MethodName := ⟨RX8, "isEmpty", "(I)Z"⟩
abbrev cX8_isReached : ByteArray := prog_10_method_14_code
def yX8_isReached : MethodName := ⟨RX8, "isReached", "(I)Z"⟩
abbrev cX8_of : ByteArray := prog_10_method_15_code
def yX8_of : MethodName := ⟨RX8, "of", "(II)I"⟩
abbrev cX8_pickup : ByteArray := prog_10_method_16_code
def yX8_pickup : MethodName := ⟨RX8, "pickup", "(I)I"⟩
abbrev cX8_bayOf : ByteArray := prog_10_method_17_code
def yX8_bayOf : MethodName := ⟨RX8, "bayOf", "(I)I"⟩
abbrev cX8_isCar : ByteArray := prog_10_method_18_code
def yX8_isCar : MethodName := ⟨RX8, "isCar", "(I)Z"⟩
abbrev cX8_isBay : ByteArray := prog_10_method_19_code
def yX8_isBay : MethodName := ⟨RX8, "isBay", "(I)Z"⟩
abbrev cX8_blocking : ByteArray := prog_10_method_20_code
def yX8_blocking : MethodName := ⟨RX8, "blocking", "(I)I"⟩
abbrev cX8_isBad : ByteArray := prog_10_method_21_code
def yX8_isBad : MethodName := ⟨RX8, "isBad", "(II)Z"⟩
abbrev cX8_effort : ByteArray := prog_10_method_22_code
def yX8_effort : MethodName := ⟨RX8, "effort", "(II)I"⟩
abbrev cX8_chosen : ByteArray := prog_10_method_23_code
def yX8_chosen : MethodName := ⟨RX8, "chosen", "(III)I"⟩
abbrev cX8_at : ByteArray := prog_10_method_24_code
def yX8_at : MethodName := ⟨RX8, "at", "(I)I"⟩
abbrev cX8_ready : ByteArray := prog_10_method_25_code
def yX8_ready : MethodName := ⟨RX8, "ready", "(I)I"⟩
abbrev cX8_does : ByteArray := prog_10_method_26_code
def yX8_does : MethodName := ⟨RX8, "does", "(III)V"⟩
abbrev cX8_notes : ByteArray := prog_10_method_27_code
def yX8_notes : MethodName := ⟨RX8, "notes", "(III)V"⟩
abbrev cX8_handling : ByteArray := prog_10_method_28_code
def yX8_handling : MethodName := ⟨RX8, "handling", "(I)I"⟩
abbrev cX8_jobBegins : ByteArray := prog_10_method_29_code
def yX8_jobBegins : MethodName := ⟨RX8, "jobBegins", "()V"⟩
abbrev cX8_bringsIn : ByteArray := prog_10_method_30_code
def yX8_bringsIn : MethodName := ⟨RX8, "bringsIn", "(II)V"⟩
abbrev cX8_bringsOut : ByteArray := prog_10_method_31_code
def yX8_bringsOut : MethodName := ⟨RX8, "bringsOut", "(I)V"⟩
abbrev cX8_moves : ByteArray := prog_10_method_32_code
def yX8_moves : MethodName := ⟨RX8, "moves", "(II)V"⟩
abbrev cX8_isSize : ByteArray := prog_10_method_33_code
def yX8_isSize : MethodName := ⟨RX8, "isSize", "(I)Z"⟩
abbrev cX8_isPickup : ByteArray := prog_10_method_34_code
def yX8_isPickup : MethodName := ⟨RX8, "isPickup", "(I)Z"⟩
abbrev cX8_stores : ByteArray := prog_10_method_35_code
def yX8_stores : MethodName := ⟨RX8, "stores", "(II)I"⟩
abbrev cX8_store : ByteArray := prog_10_method_36_code
def yX8_store : MethodName := ⟨RX8, "store", "(II)I"⟩
abbrev cX8_open : ByteArray := prog_10_method_37_code
def yX8_open : MethodName := ⟨RX8, "open", "()I"⟩
abbrev cX8_takesOut : ByteArray := prog_10_method_38_code
def yX8_takesOut : MethodName := ⟨RX8, "takesOut", "(I)I"⟩
abbrev cX8_retrieves : ByteArray := prog_10_method_39_code
def yX8_retrieves : MethodName := ⟨RX8, "retrieves", "(I)I"⟩
abbrev cX8_retrieve : ByteArray := prog_10_method_40_code
def yX8_retrieve : MethodName := ⟨RX8, "retrieve", "(I)I"⟩
abbrev cX8_book : ByteArray := prog_10_method_41_code
def yX8_book : MethodName := ⟨RX8, "book", "(II)I"⟩
abbrev cX8_jobsOf : ByteArray := prog_10_method_42_code
def yX8_jobsOf : MethodName := ⟨RX8, "jobsOf", "(I)I"⟩
abbrev cX8_car : ByteArray := prog_10_method_43_code
def yX8_car : MethodName := ⟨RX8, "car", "(II)I"⟩
abbrev cX8_due : ByteArray := prog_10_method_44_code
def yX8_due : MethodName := ⟨RX8, "due", "(I)J"⟩
abbrev cX8_closes : ByteArray := prog_10_method_45_code
def yX8_closes : MethodName := ⟨RX8, "closes", "(II)I"⟩
abbrev cX8_setClosed : ByteArray := prog_10_method_46_code
def yX8_setClosed : MethodName := ⟨RX8, "setClosed", "(IZ)Z"⟩
abbrev cX8_bay : ByteArray := prog_10_method_47_code
def yX8_bay : MethodName := ⟨RX8, "bay", "(II)I"⟩
abbrev cX8_choice : ByteArray := prog_10_method_48_code
def yX8_choice : MethodName := ⟨RX8, "choice", "(II)I"⟩
abbrev cX8_refuge : ByteArray := prog_10_method_49_code
def yX8_refuge : MethodName := ⟨RX8, "refuge", "(I)I"⟩
abbrev cX8_isCounted : ByteArray := prog_10_method_50_code
def yX8_isCounted : MethodName := ⟨RX8, "isCounted", "(II)Z"⟩
abbrev cX8_bays : ByteArray := prog_10_method_51_code
def yX8_bays : MethodName := ⟨RX8, "bays", "(I)I"⟩
abbrev cX8_isSet : ByteArray := prog_10_method_52_code
def yX8_isSet : MethodName := ⟨RX8, "isSet", "(J)Z"⟩
abbrev cX8_goes : ByteArray := prog_10_method_53_code
def yX8_goes : MethodName := ⟨RX8, "goes", "()Z"⟩
abbrev cX8_tries : ByteArray := prog_10_method_54_code
def yX8_tries : MethodName := ⟨RX8, "tries", "(I)V"⟩
abbrev cX8_triesRow : ByteArray := prog_10_method_55_code
def yX8_triesRow : MethodName := ⟨RX8, "triesRow", "()V"⟩
abbrev cX8_isFound : ByteArray := prog_10_method_56_code
def yX8_isFound : MethodName := ⟨RX8, "isFound", "()Z"⟩
abbrev cX8_bestMoves : ByteArray := prog_10_method_57_code
def yX8_bestMoves : MethodName := ⟨RX8, "bestMoves", "(J)I"⟩
abbrev cX8_bestEnd : ByteArray := prog_10_method_58_code
def yX8_bestEnd : MethodName := ⟨RX8, "bestEnd", "(J)I"⟩
abbrev cX8_bestCar : ByteArray := prog_10_method_59_code
def yX8_bestCar : MethodName := ⟨RX8, "bestCar", "(JI)I"⟩
abbrev cX8_plainMoves : ByteArray := prog_10_method_60_code
def yX8_plainMoves : MethodName := ⟨RX8, "plainMoves", "(J)I"⟩
abbrev cX8_retrieveAll : ByteArray := prog_10_method_61_code
def yX8_retrieveAll : MethodName := ⟨RX8, "retrieveAll", "(J)I"⟩
abbrev cX8_isWrong : ByteArray := prog_10_method_62_code
def yX8_isWrong : MethodName := ⟨RX8, "isWrong", "(I)Z"⟩
abbrev cX8_isAhead : ByteArray := prog_10_method_63_code
def yX8_isAhead : MethodName := ⟨RX8, "isAhead", "(II)Z"⟩
abbrev cX8_tidy : ByteArray := prog_10_method_64_code
def yX8_tidy : MethodName := ⟨RX8, "tidy", "()I"⟩
abbrev cX8_passes : ByteArray := prog_10_method_65_code
def yX8_passes : MethodName := ⟨RX8, "passes", "(I)I"⟩
abbrev cX8_pass : ByteArray := prog_10_method_66_code
def yX8_pass : MethodName := ⟨RX8, "pass", "(I)I"⟩
abbrev cX8_machine : ByteArray := prog_10_method_67_code
def yX8_machine : MethodName := ⟨RX8, "machine", "(II)I"⟩
abbrev cX8_jobs : ByteArray := prog_10_method_68_code
def yX8_jobs : MethodName := ⟨RX8, "jobs", "()I"⟩
abbrev cX8_job : ByteArray := prog_10_method_69_code
def yX8_job : MethodName := ⟨RX8, "job", "(II)I"⟩
abbrev cX8_account : ByteArray := prog_10_method_70_code
def yX8_account : MethodName := ⟨RX8, "account", "(I)I"⟩
abbrev cX8_load : ByteArray := prog_10_method_71_code
def yX8_load : MethodName := ⟨RX8, "load", "(I)F"⟩
abbrev cX8_meanJob : ByteArray := prog_10_method_72_code
def yX8_meanJob : MethodName := ⟨RX8, "meanJob", "()D"⟩
abbrev cX8_report : ByteArray := prog_10_method_73_code
def yX8_report : MethodName := ⟨RX8, "report", "(II)I"⟩
abbrev cX8_feed : ByteArray := prog_10_method_74_code
def yX8_feed : MethodName := ⟨RX8, "feed", "(C)I"⟩
abbrev cX8_sign : ByteArray := prog_10_method_75_code
def yX8_sign : MethodName := ⟨RX8, "sign", "()I"⟩
abbrev cX8_number : ByteArray := prog_10_method_76_code
def yX8_number : MethodName := ⟨RX8, "number", "(II)I"⟩
abbrev cX8_takes : ByteArray := prog_10_method_77_code
def yX8_takes : MethodName := ⟨RX8, "takes", "(I)V"⟩
abbrev cX8_command : ByteArray := prog_10_method_78_code
def yX8_command : MethodName := ⟨RX8, "command", "()I"⟩
abbrev cX8_carriesOut : ByteArray := prog_10_method_79_code
def yX8_carriesOut : MethodName := ⟨RX8, "carriesOut", "(I)I"⟩
abbrev cX8_perform : ByteArray := prog_10_method_80_code
def yX8_perform : MethodName := ⟨RX8, "perform", "()I"⟩
abbrev cX8_stored : ByteArray := prog_10_method_81_code
def yX8_stored : MethodName := ⟨RX8, "stored", "()I"⟩
abbrev cX8_undo : ByteArray := prog_10_method_82_code
def yX8_undo : MethodName := ⟨RX8, "undo", "()I"⟩
abbrev cX8_save : ByteArray := prog_10_method_83_code
def yX8_save : MethodName := ⟨RX8, "save", "()I"⟩
abbrev cX8_restore : ByteArray := prog_10_method_84_code
def yX8_restore : MethodName := ⟨RX8, "restore", "()I"⟩
def RJ13 : String := "java/lang/Long"
abbrev cJ13_bitCount_95d88 : ByteArray := prog_18_method_50_code
def yJ13_bitCount_95d88 : MethodName := ⟨RJ13, "bitCount", "(J)I"⟩
def RL : String := "ParkingRobotLaw"
abbrev cL_store : ByteArray := method_3_code
def yL_store : MethodName := ⟨RL, "store", "(LParkingRobot;II[J)I"⟩
abbrev cL_retrieve : ByteArray := method_4_code
def yL_retrieve : MethodName := ⟨RL, "retrieve", "(LParkingRobot;I[J)I"⟩
abbrev cL_book : ByteArray := method_5_code
def yL_book : MethodName := ⟨RL, "book", "(LParkingRobot;II[J)I"⟩
abbrev cL_car : ByteArray := method_6_code
def yL_car : MethodName := ⟨RL, "car", "(LParkingRobot;II[J)I"⟩
abbrev cL_due : ByteArray := method_7_code
def yL_due : MethodName := ⟨RL, "due", "(LParkingRobot;I[J)I"⟩
abbrev cL_setClosed : ByteArray := method_8_code
def yL_setClosed : MethodName := ⟨RL, "setClosed", "(LParkingRobot;IZ[J)I"⟩
abbrev cL_bay : ByteArray := method_9_code
def yL_bay : MethodName := ⟨RL, "bay", "(LParkingRobot;II[J)I"⟩
abbrev cL_choice : ByteArray := method_10_code
def yL_choice : MethodName := ⟨RL, "choice", "(LParkingRobot;II[J)I"⟩
abbrev cL_refuge : ByteArray := method_11_code
def yL_refuge : MethodName := ⟨RL, "refuge", "(LParkingRobot;I[J)I"⟩
abbrev cL_bays : ByteArray := method_12_code
def yL_bays : MethodName := ⟨RL, "bays", "(LParkingRobot;I[J)I"⟩
abbrev cL_bestMoves : ByteArray := method_13_code
def yL_bestMoves : MethodName := ⟨RL, "bestMoves", "(LParkingRobot;J[J)I"⟩
abbrev cL_bestEnd : ByteArray := method_14_code
def yL_bestEnd : MethodName := ⟨RL, "bestEnd", "(LParkingRobot;J[J)I"⟩
abbrev cL_bestCar : ByteArray := method_15_code
def yL_bestCar : MethodName := ⟨RL, "bestCar", "(LParkingRobot;JI[J)I"⟩
abbrev cL_plainMoves : ByteArray := method_16_code
def yL_plainMoves : MethodName := ⟨RL, "plainMoves", "(LParkingRobot;J[J)I"⟩
abbrev cL_retrieveAll : ByteArray := method_17_code
def yL_retrieveAll : MethodName := ⟨RL, "retrieveAll", "(LParkingRobot;J[J)I"⟩
abbrev cL_pass : ByteArray := method_18_code
def yL_pass : MethodName := ⟨RL, "pass", "(LParkingRobot;I[J)I"⟩
abbrev cL_machine : ByteArray := method_19_code
def yL_machine : MethodName := ⟨RL, "machine", "(LParkingRobot;II[J)I"⟩
abbrev cL_job : ByteArray := method_20_code
def yL_job : MethodName := ⟨RL, "job", "(LParkingRobot;II[J)I"⟩
abbrev cL_account : ByteArray := method_21_code
def yL_account : MethodName := ⟨RL, "account", "(LParkingRobot;I[J)I"⟩
abbrev cL_load : ByteArray := method_22_code
def yL_load : MethodName := ⟨RL, "load", "(LParkingRobot;I[D)I"⟩
abbrev cL_meanJob : ByteArray := method_23_code
def yL_meanJob : MethodName := ⟨RL, "meanJob", "(LParkingRobot;[D)I"⟩
abbrev cL_report : ByteArray := method_24_code
def yL_report : MethodName := ⟨RL, "report", "(LParkingRobot;II[J)I"⟩
abbrev cL_feed : ByteArray := method_25_code
def yL_feed : MethodName := ⟨RL, "feed", "(LParkingRobot;C[J)I"⟩
abbrev cL_perform : ByteArray := method_26_code
def yL_perform : MethodName := ⟨RL, "perform", "(LParkingRobot;[J)I"⟩
abbrev cL_undo : ByteArray := method_27_code
def yL_undo : MethodName := ⟨RL, "undo", "(LParkingRobot;[J)I"⟩
abbrev cL_restore : ByteArray := method_28_code
def yL_restore : MethodName := ⟨RL, "restore", "(LParkingRobot;[J)I"⟩
abbrev cL_law : ByteArray := code
def yL_law : MethodName := ⟨RL, "law", "([I)Z"⟩
end
section
theorem dX0_init_0 : decode cX0_init 0 = .ok (.aload_n 0, 1) := by decide +kernel
theorem dX0_init_1 : decode cX0_init 1 = .ok (.invokespecial 5, 3) := by decide +kernel
theorem dX0_init_4 : decode cX0_init 4 = .ok (.aload_n 0, 1) := by decide +kernel
theorem dX0_init_5 : decode cX0_init 5 = .ok (.bipush 60, 2) := by decide +kernel
theorem dX0_init_7 : decode cX0_init 7 = .ok (.newarray .char, 2) := by decide +kernel
theorem dX0_init_9 : decode cX0_init 9 = .ok (.putfield 11, 3) := by decide +kernel
theorem dX0_init_12 : decode cX0_init 12 = .ok (.aload_n 0, 1) := by decide +kernel
theorem dX0_init_13 : decode cX0_init 13 = .ok (.bipush 20, 2) := by decide +kernel
theorem dX0_init_15 : decode cX0_init 15 = .ok (.newarray .char, 2) := by decide +kernel
theorem dX0_init_17 : decode cX0_init 17 = .ok (.putfield 15, 3) := by decide +kernel
theorem dX0_init_20 : decode cX0_init 20 = .ok (.aload_n 0, 1) := by decide +kernel
theorem dX0_init_21 : decode cX0_init 21 = .ok (.bipush 20, 2) := by decide +kernel
theorem dX0_init_23 : decode cX0_init 23 = .ok (.newarray .int, 2) := by decide +kernel
theorem dX0_init_25 : decode cX0_init 25 = .ok (.putfield 18, 3) := by decide +kernel
theorem dX0_init_28 : decode cX0_init 28 = .ok (.aload_n 0, 1) := by decide +kernel
theorem dX0_init_29 : decode cX0_init 29 = .ok (.bipush 20, 2) := by decide +kernel
theorem dX0_init_31 : decode cX0_init 31 = .ok (.newarray .int, 2) := by decide +kernel
theorem dX0_init_33 : decode cX0_init 33 = .ok (.putfield 22, 3) := by decide +kernel
theorem dX0_init_36 : decode cX0_init 36 = .ok (.return_, 1) := by decide +kernel
theorem dX0_length_0 : decode cX0_length 0 = .ok (.aload_n 0, 1) := by decide +kernel
theorem dX0_length_1 : decode cX0_length 1 = .ok (.getfield 25, 3) := by decide +kernel
theorem dX0_length_4 : decode cX0_length 4 = .ok (.ireturn, 1) := by decide +kernel
theorem dX0_append_0 : decode cX0_append 0 = .ok (.aload_n 0, 1) := by decide +kernel
theorem dX0_append_1 : decode cX0_append 1 = .ok (.getfield 25, 3) := by decide +kernel
theorem dX0_append_4 : decode cX0_append 4 = .ok (.bipush 60, 2) := by decide +kernel
theorem dX0_append_6 : decode cX0_append 6 = .ok (.if_icmp .lt 5, 3) := by decide +kernel
theorem dX0_append_9 : decode cX0_append 9 = .ok (.iconst 0, 1) := by decide +kernel
theorem dX0_append_10 : decode cX0_append 10 = .ok (.ireturn, 1) := by decide +kernel
theorem dX0_append_11 : decode cX0_append 11 = .ok (.aload_n 0, 1) := by decide +kernel
theorem dX0_append_12 : decode cX0_append 12 = .ok (.getfield 11, 3) := by decide +kernel
theorem dX0_append_15 : decode cX0_append 15 = .ok (.aload_n 0, 1) := by decide +kernel
theorem dX0_append_16 : decode cX0_append 16 = .ok (.getfield 25, 3) := by decide +kernel
theorem dX0_append_19 : decode cX0_append 19 = .ok (.iload_n 1, 1) := by decide +kernel
theorem dX0_append_20 : decode cX0_append 20 = .ok (.castore, 1) := by decide +kernel
theorem dX0_append_21 : decode cX0_append 21 = .ok (.aload_n 0, 1) := by decide +kernel
theorem dX0_append_22 : decode cX0_append 22 = .ok (.dup, 1) := by decide +kernel
theorem dX0_append_23 : decode cX0_append 23 = .ok (.getfield 25, 3) := by decide +kernel
theorem dX0_append_26 : decode cX0_append 26 = .ok (.iconst 1, 1) := by decide +kernel
theorem dX0_append_27 : decode cX0_append 27 = .ok (.iadd, 1) := by decide +kernel
theorem dX0_append_28 : decode cX0_append 28 = .ok (.putfield 25, 3) := by decide +kernel
theorem dX0_append_31 : decode cX0_append 31 = .ok (.iconst 1, 1) := by decide +kernel
theorem dX0_append_32 : decode cX0_append 32 = .ok (.ireturn, 1) := by decide +kernel
theorem dX0_empty_0 : decode cX0_empty 0 = .ok (.aload_n 0, 1) := by decide +kernel
theorem dX0_empty_1 : decode cX0_empty 1 = .ok (.iconst 0, 1) := by decide +kernel
theorem dX0_empty_2 : decode cX0_empty 2 = .ok (.putfield 25, 3) := by decide +kernel
theorem dX0_empty_5 : decode cX0_empty 5 = .ok (.return_, 1) := by decide +kernel
theorem dX0_commands_0 : decode cX0_commands 0 = .ok (.aload_n 0, 1) := by decide +kernel
theorem dX0_commands_1 : decode cX0_commands 1 = .ok (.getfield 29, 3) := by decide +kernel
theorem dX0_commands_4 : decode cX0_commands 4 = .ok (.ireturn, 1) := by decide +kernel
theorem dX0_kindOf_0 : decode cX0_kindOf 0 = .ok (.aload_n 0, 1) := by decide +kernel
theorem dX0_kindOf_1 : decode cX0_kindOf 1 = .ok (.getfield 15, 3) := by decide +kernel
theorem dX0_kindOf_4 : decode cX0_kindOf 4 = .ok (.iload_n 1, 1) := by decide +kernel
theorem dX0_kindOf_5 : decode cX0_kindOf 5 = .ok (.caload, 1) := by decide +kernel
theorem dX0_kindOf_6 : decode cX0_kindOf 6 = .ok (.ireturn, 1) := by decide +kernel
theorem dX0_sizeOf_0 : decode cX0_sizeOf 0 = .ok (.aload_n 0, 1) := by decide +kernel
theorem dX0_sizeOf_1 : decode cX0_sizeOf 1 = .ok (.getfield 18, 3) := by decide +kernel
theorem dX0_sizeOf_4 : decode cX0_sizeOf 4 = .ok (.iload_n 1, 1) := by decide +kernel
theorem dX0_sizeOf_5 : decode cX0_sizeOf 5 = .ok (.iaload, 1) := by decide +kernel
theorem dX0_sizeOf_6 : decode cX0_sizeOf 6 = .ok (.ireturn, 1) := by decide +kernel
theorem dX0_numberOf_0 : decode cX0_numberOf 0 = .ok (.aload_n 0, 1) := by decide +kernel
theorem dX0_numberOf_1 : decode cX0_numberOf 1 = .ok (.getfield 22, 3) := by decide +kernel
theorem dX0_numberOf_4 : decode cX0_numberOf 4 = .ok (.iload_n 1, 1) := by decide +kernel
theorem dX0_numberOf_5 : decode cX0_numberOf 5 = .ok (.iaload, 1) := by decide +kernel
theorem dX0_numberOf_6 : decode cX0_numberOf 6 = .ok (.ireturn, 1) := by decide +kernel
theorem dX0_parse_0 : decode cX0_parse 0 = .ok (.aload_n 0, 1) := by decide +kernel
theorem dX0_parse_1 : decode cX0_parse 1 = .ok (.iconst 0, 1) := by decide +kernel
theorem dX0_parse_2 : decode cX0_parse 2 = .ok (.putfield 32, 3) := by decide +kernel
theorem dX0_parse_5 : decode cX0_parse 5 = .ok (.aload_n 0, 1) := by decide +kernel
theorem dX0_parse_6 : decode cX0_parse 6 = .ok (.iconst 0, 1) := by decide +kernel
theorem dX0_parse_7 : decode cX0_parse 7 = .ok (.putfield 29, 3) := by decide +kernel
theorem dX0_parse_10 : decode cX0_parse 10 = .ok (.iconst 0, 1) := by decide +kernel
theorem dX0_parse_11 : decode cX0_parse 11 = .ok (.istore_n 1, 1) := by decide +kernel
theorem dX0_parse_12 : decode cX0_parse 12 = .ok (.iload_n 1, 1) := by decide +kernel
theorem dX0_parse_13 : decode cX0_parse 13 = .ok (.bipush 20, 2) := by decide +kernel
theorem dX0_parse_15 : decode cX0_parse 15 = .ok (.if_icmp .ge 47, 3) := by decide +kernel
theorem dX0_parse_18 : decode cX0_parse 18 = .ok (.iload_n 1, 1) := by decide +kernel
theorem dX0_parse_19 : decode cX0_parse 19 = .ok (.ifCond .eq 14, 3) := by decide +kernel
theorem dX0_parse_22 : decode cX0_parse 22 = .ok (.aload_n 0, 1) := by decide +kernel
theorem dX0_parse_23 : decode cX0_parse 23 = .ok (.getfield 32, 3) := by decide +kernel
theorem dX0_parse_26 : decode cX0_parse 26 = .ok (.aload_n 0, 1) := by decide +kernel
theorem dX0_parse_27 : decode cX0_parse 27 = .ok (.getfield 25, 3) := by decide +kernel
theorem dX0_parse_30 : decode cX0_parse 30 = .ok (.if_icmp .ge 32, 3) := by decide +kernel
theorem dX0_parse_33 : decode cX0_parse 33 = .ok (.aload_n 0, 1) := by decide +kernel
theorem dX0_parse_34 : decode cX0_parse 34 = .ok (.iload_n 1, 1) := by decide +kernel
theorem dX0_parse_35 : decode cX0_parse 35 = .ok (.invokevirtual 35, 3) := by decide +kernel
theorem dX0_parse_38 : decode cX0_parse 38 = .ok (.ifCond .ne 8, 3) := by decide +kernel
theorem dX0_parse_41 : decode cX0_parse 41 = .ok (.aload_n 0, 1) := by decide +kernel
theorem dX0_parse_42 : decode cX0_parse 42 = .ok (.getfield 32, 3) := by decide +kernel
theorem dX0_parse_45 : decode cX0_parse 45 = .ok (.ireturn, 1) := by decide +kernel
theorem dX0_parse_46 : decode cX0_parse 46 = .ok (.aload_n 0, 1) := by decide +kernel
theorem dX0_parse_47 : decode cX0_parse 47 = .ok (.dup, 1) := by decide +kernel
theorem dX0_parse_48 : decode cX0_parse 48 = .ok (.getfield 29, 3) := by decide +kernel
theorem dX0_parse_51 : decode cX0_parse 51 = .ok (.iconst 1, 1) := by decide +kernel
theorem dX0_parse_52 : decode cX0_parse 52 = .ok (.iadd, 1) := by decide +kernel
theorem dX0_parse_53 : decode cX0_parse 53 = .ok (.putfield 29, 3) := by decide +kernel
theorem dX0_parse_56 : decode cX0_parse 56 = .ok (.iinc 1 1, 3) := by decide +kernel
theorem dX0_parse_59 : decode cX0_parse 59 = .ok (.goto (-47), 3) := by decide +kernel
theorem dX0_parse_62 : decode cX0_parse 62 = .ok (.iconst (-1), 1) := by decide +kernel
theorem dX0_parse_63 : decode cX0_parse 63 = .ok (.ireturn, 1) := by decide +kernel
theorem dX0_readCommand_0 : decode cX0_readCommand 0 = .ok (.aload_n 0, 1) := by decide +kernel
theorem dX0_readCommand_1 : decode cX0_readCommand 1 = .ok (.invokevirtual 39, 3) := by decide +kernel
theorem dX0_readCommand_4 : decode cX0_readCommand 4 = .ok (.istore_n 2, 1) := by decide +kernel
theorem dX0_readCommand_5 : decode cX0_readCommand 5 = .ok (.iload_n 2, 1) := by decide +kernel
theorem dX0_readCommand_6 : decode cX0_readCommand 6 = .ok (.bipush 115, 2) := by decide +kernel
theorem dX0_readCommand_8 : decode cX0_readCommand 8 = .ok (.if_icmp .eq 29, 3) := by decide +kernel
theorem dX0_readCommand_11 : decode cX0_readCommand 11 = .ok (.iload_n 2, 1) := by decide +kernel
theorem dX0_readCommand_12 : decode cX0_readCommand 12 = .ok (.bipush 114, 2) := by decide +kernel
theorem dX0_readCommand_14 : decode cX0_readCommand 14 = .ok (.if_icmp .eq 23, 3) := by decide +kernel
theorem dX0_readCommand_17 : decode cX0_readCommand 17 = .ok (.iload_n 2, 1) := by decide +kernel
theorem dX0_readCommand_18 : decode cX0_readCommand 18 = .ok (.bipush 116, 2) := by decide +kernel
theorem dX0_readCommand_20 : decode cX0_readCommand 20 = .ok (.if_icmp .eq 17, 3) := by decide +kernel
theorem dX0_readCommand_23 : decode cX0_readCommand 23 = .ok (.iload_n 2, 1) := by decide +kernel
theorem dX0_readCommand_24 : decode cX0_readCommand 24 = .ok (.bipush 99, 2) := by decide +kernel
theorem dX0_readCommand_26 : decode cX0_readCommand 26 = .ok (.if_icmp .eq 11, 3) := by decide +kernel
theorem dX0_readCommand_29 : decode cX0_readCommand 29 = .ok (.iload_n 2, 1) := by decide +kernel
theorem dX0_readCommand_30 : decode cX0_readCommand 30 = .ok (.bipush 111, 2) := by decide +kernel
theorem dX0_readCommand_32 : decode cX0_readCommand 32 = .ok (.if_icmp .eq 5, 3) := by decide +kernel
theorem dX0_readCommand_35 : decode cX0_readCommand 35 = .ok (.iconst 0, 1) := by decide +kernel
theorem dX0_readCommand_36 : decode cX0_readCommand 36 = .ok (.ireturn, 1) := by decide +kernel
theorem dX0_readCommand_37 : decode cX0_readCommand 37 = .ok (.aload_n 0, 1) := by decide +kernel
theorem dX0_readCommand_38 : decode cX0_readCommand 38 = .ok (.getfield 15, 3) := by decide +kernel
theorem dX0_readCommand_41 : decode cX0_readCommand 41 = .ok (.iload_n 1, 1) := by decide +kernel
theorem dX0_readCommand_42 : decode cX0_readCommand 42 = .ok (.iload_n 2, 1) := by decide +kernel
theorem dX0_readCommand_43 : decode cX0_readCommand 43 = .ok (.i2c, 1) := by decide +kernel
theorem dX0_readCommand_44 : decode cX0_readCommand 44 = .ok (.castore, 1) := by decide +kernel
theorem dX0_readCommand_45 : decode cX0_readCommand 45 = .ok (.aload_n 0, 1) := by decide +kernel
theorem dX0_readCommand_46 : decode cX0_readCommand 46 = .ok (.dup, 1) := by decide +kernel
theorem dX0_readCommand_47 : decode cX0_readCommand 47 = .ok (.getfield 32, 3) := by decide +kernel
theorem dX0_readCommand_50 : decode cX0_readCommand 50 = .ok (.iconst 1, 1) := by decide +kernel
theorem dX0_readCommand_51 : decode cX0_readCommand 51 = .ok (.iadd, 1) := by decide +kernel
theorem dX0_readCommand_52 : decode cX0_readCommand 52 = .ok (.putfield 32, 3) := by decide +kernel
theorem dX0_readCommand_55 : decode cX0_readCommand 55 = .ok (.iload_n 2, 1) := by decide +kernel
theorem dX0_readCommand_56 : decode cX0_readCommand 56 = .ok (.bipush 115, 2) := by decide +kernel
theorem dX0_readCommand_58 : decode cX0_readCommand 58 = .ok (.if_icmp .ne 11, 3) := by decide +kernel
theorem dX0_readCommand_61 : decode cX0_readCommand 61 = .ok (.aload_n 0, 1) := by decide +kernel
theorem dX0_readCommand_62 : decode cX0_readCommand 62 = .ok (.iload_n 1, 1) := by decide +kernel
theorem dX0_readCommand_63 : decode cX0_readCommand 63 = .ok (.invokevirtual 43, 3) := by decide +kernel
theorem dX0_readCommand_66 : decode cX0_readCommand 66 = .ok (.ifCond .eq 24, 3) := by decide +kernel
theorem dX0_readCommand_69 : decode cX0_readCommand 69 = .ok (.aload_n 0, 1) := by decide +kernel
theorem dX0_readCommand_70 : decode cX0_readCommand 70 = .ok (.iload_n 1, 1) := by decide +kernel
theorem dX0_readCommand_71 : decode cX0_readCommand 71 = .ok (.invokevirtual 46, 3) := by decide +kernel
theorem dX0_readCommand_74 : decode cX0_readCommand 74 = .ok (.ifCond .eq 16, 3) := by decide +kernel
theorem dX0_readCommand_77 : decode cX0_readCommand 77 = .ok (.aload_n 0, 1) := by decide +kernel
theorem dX0_readCommand_78 : decode cX0_readCommand 78 = .ok (.bipush 59, 2) := by decide +kernel
theorem dX0_readCommand_80 : decode cX0_readCommand 80 = .ok (.invokevirtual 49, 3) := by decide +kernel
theorem dX0_readCommand_83 : decode cX0_readCommand 83 = .ok (.ifCond .eq 7, 3) := by decide +kernel
theorem dX0_readCommand_86 : decode cX0_readCommand 86 = .ok (.iconst 1, 1) := by decide +kernel
theorem dX0_readCommand_87 : decode cX0_readCommand 87 = .ok (.goto 4, 3) := by decide +kernel
theorem dX0_readCommand_90 : decode cX0_readCommand 90 = .ok (.iconst 0, 1) := by decide +kernel
theorem dX0_readCommand_91 : decode cX0_readCommand 91 = .ok (.ireturn, 1) := by decide +kernel
theorem dX0_readSize_0 : decode cX0_readSize 0 = .ok (.aload_n 0, 1) := by decide +kernel
theorem dX0_readSize_1 : decode cX0_readSize 1 = .ok (.invokevirtual 39, 3) := by decide +kernel
theorem dX0_readSize_4 : decode cX0_readSize 4 = .ok (.istore_n 2, 1) := by decide +kernel
theorem dX0_readSize_5 : decode cX0_readSize 5 = .ok (.iload_n 2, 1) := by decide +kernel
theorem dX0_readSize_6 : decode cX0_readSize 6 = .ok (.bipush 48, 2) := by decide +kernel
theorem dX0_readSize_8 : decode cX0_readSize 8 = .ok (.if_icmp .eq 11, 3) := by decide +kernel
theorem dX0_readSize_11 : decode cX0_readSize 11 = .ok (.iload_n 2, 1) := by decide +kernel
theorem dX0_readSize_12 : decode cX0_readSize 12 = .ok (.bipush 49, 2) := by decide +kernel
theorem dX0_readSize_14 : decode cX0_readSize 14 = .ok (.if_icmp .eq 5, 3) := by decide +kernel
theorem dX0_readSize_17 : decode cX0_readSize 17 = .ok (.iconst 0, 1) := by decide +kernel
theorem dX0_readSize_18 : decode cX0_readSize 18 = .ok (.ireturn, 1) := by decide +kernel
theorem dX0_readSize_19 : decode cX0_readSize 19 = .ok (.aload_n 0, 1) := by decide +kernel
theorem dX0_readSize_20 : decode cX0_readSize 20 = .ok (.getfield 18, 3) := by decide +kernel
theorem dX0_readSize_23 : decode cX0_readSize 23 = .ok (.iload_n 1, 1) := by decide +kernel
theorem dX0_readSize_24 : decode cX0_readSize 24 = .ok (.iload_n 2, 1) := by decide +kernel
theorem dX0_readSize_25 : decode cX0_readSize 25 = .ok (.bipush 48, 2) := by decide +kernel
theorem dX0_readSize_27 : decode cX0_readSize 27 = .ok (.isub, 1) := by decide +kernel
theorem dX0_readSize_28 : decode cX0_readSize 28 = .ok (.iastore, 1) := by decide +kernel
theorem dX0_readSize_29 : decode cX0_readSize 29 = .ok (.aload_n 0, 1) := by decide +kernel
theorem dX0_readSize_30 : decode cX0_readSize 30 = .ok (.dup, 1) := by decide +kernel
theorem dX0_readSize_31 : decode cX0_readSize 31 = .ok (.getfield 32, 3) := by decide +kernel
theorem dX0_readSize_34 : decode cX0_readSize 34 = .ok (.iconst 1, 1) := by decide +kernel
theorem dX0_readSize_35 : decode cX0_readSize 35 = .ok (.iadd, 1) := by decide +kernel
theorem dX0_readSize_36 : decode cX0_readSize 36 = .ok (.putfield 32, 3) := by decide +kernel
theorem dX0_readSize_39 : decode cX0_readSize 39 = .ok (.aload_n 0, 1) := by decide +kernel
theorem dX0_readSize_40 : decode cX0_readSize 40 = .ok (.bipush 44, 2) := by decide +kernel
theorem dX0_readSize_42 : decode cX0_readSize 42 = .ok (.invokevirtual 49, 3) := by decide +kernel
theorem dX0_readSize_45 : decode cX0_readSize 45 = .ok (.ireturn, 1) := by decide +kernel
theorem dX0_readNumber_0 : decode cX0_readNumber 0 = .ok (.iconst 0, 1) := by decide +kernel
theorem dX0_readNumber_1 : decode cX0_readNumber 1 = .ok (.istore_n 2, 1) := by decide +kernel
theorem dX0_readNumber_2 : decode cX0_readNumber 2 = .ok (.iconst 0, 1) := by decide +kernel
theorem dX0_readNumber_3 : decode cX0_readNumber 3 = .ok (.istore_n 3, 1) := by decide +kernel
theorem dX0_readNumber_4 : decode cX0_readNumber 4 = .ok (.iload_n 3, 1) := by decide +kernel
theorem dX0_readNumber_5 : decode cX0_readNumber 5 = .ok (.iconst 4, 1) := by decide +kernel
theorem dX0_readNumber_6 : decode cX0_readNumber 6 = .ok (.if_icmp .ge 50, 3) := by decide +kernel
theorem dX0_readNumber_9 : decode cX0_readNumber 9 = .ok (.aload_n 0, 1) := by decide +kernel
theorem dX0_readNumber_10 : decode cX0_readNumber 10 = .ok (.invokevirtual 39, 3) := by decide +kernel
theorem dX0_readNumber_13 : decode cX0_readNumber 13 = .ok (.bipush 48, 2) := by decide +kernel
theorem dX0_readNumber_15 : decode cX0_readNumber 15 = .ok (.if_icmp .lt 41, 3) := by decide +kernel
theorem dX0_readNumber_18 : decode cX0_readNumber 18 = .ok (.aload_n 0, 1) := by decide +kernel
theorem dX0_readNumber_19 : decode cX0_readNumber 19 = .ok (.invokevirtual 39, 3) := by decide +kernel
theorem dX0_readNumber_22 : decode cX0_readNumber 22 = .ok (.bipush 57, 2) := by decide +kernel
theorem dX0_readNumber_24 : decode cX0_readNumber 24 = .ok (.if_icmp .gt 32, 3) := by decide +kernel
theorem dX0_readNumber_27 : decode cX0_readNumber 27 = .ok (.iload_n 2, 1) := by decide +kernel
theorem dX0_readNumber_28 : decode cX0_readNumber 28 = .ok (.bipush 10, 2) := by decide +kernel
theorem dX0_readNumber_30 : decode cX0_readNumber 30 = .ok (.imul, 1) := by decide +kernel
theorem dX0_readNumber_31 : decode cX0_readNumber 31 = .ok (.aload_n 0, 1) := by decide +kernel
theorem dX0_readNumber_32 : decode cX0_readNumber 32 = .ok (.invokevirtual 39, 3) := by decide +kernel
theorem dX0_readNumber_35 : decode cX0_readNumber 35 = .ok (.iadd, 1) := by decide +kernel
theorem dX0_readNumber_36 : decode cX0_readNumber 36 = .ok (.bipush 48, 2) := by decide +kernel
theorem dX0_readNumber_38 : decode cX0_readNumber 38 = .ok (.isub, 1) := by decide +kernel
theorem dX0_readNumber_39 : decode cX0_readNumber 39 = .ok (.istore_n 2, 1) := by decide +kernel
theorem dX0_readNumber_40 : decode cX0_readNumber 40 = .ok (.aload_n 0, 1) := by decide +kernel
theorem dX0_readNumber_41 : decode cX0_readNumber 41 = .ok (.dup, 1) := by decide +kernel
theorem dX0_readNumber_42 : decode cX0_readNumber 42 = .ok (.getfield 32, 3) := by decide +kernel
theorem dX0_readNumber_45 : decode cX0_readNumber 45 = .ok (.iconst 1, 1) := by decide +kernel
theorem dX0_readNumber_46 : decode cX0_readNumber 46 = .ok (.iadd, 1) := by decide +kernel
theorem dX0_readNumber_47 : decode cX0_readNumber 47 = .ok (.putfield 32, 3) := by decide +kernel
theorem dX0_readNumber_50 : decode cX0_readNumber 50 = .ok (.iinc 3 1, 3) := by decide +kernel
theorem dX0_readNumber_53 : decode cX0_readNumber 53 = .ok (.goto (-49), 3) := by decide +kernel
theorem dX0_readNumber_56 : decode cX0_readNumber 56 = .ok (.aload_n 0, 1) := by decide +kernel
theorem dX0_readNumber_57 : decode cX0_readNumber 57 = .ok (.getfield 22, 3) := by decide +kernel
theorem dX0_readNumber_60 : decode cX0_readNumber 60 = .ok (.iload_n 1, 1) := by decide +kernel
theorem dX0_readNumber_61 : decode cX0_readNumber 61 = .ok (.iload_n 2, 1) := by decide +kernel
theorem dX0_readNumber_62 : decode cX0_readNumber 62 = .ok (.iastore, 1) := by decide +kernel
theorem dX0_readNumber_63 : decode cX0_readNumber 63 = .ok (.iload_n 3, 1) := by decide +kernel
theorem dX0_readNumber_64 : decode cX0_readNumber 64 = .ok (.ifCond .le 7, 3) := by decide +kernel
theorem dX0_readNumber_67 : decode cX0_readNumber 67 = .ok (.iconst 1, 1) := by decide +kernel
theorem dX0_readNumber_68 : decode cX0_readNumber 68 = .ok (.goto 4, 3) := by decide +kernel
theorem dX0_readNumber_71 : decode cX0_readNumber 71 = .ok (.iconst 0, 1) := by decide +kernel
theorem dX0_readNumber_72 : decode cX0_readNumber 72 = .ok (.ireturn, 1) := by decide +kernel
theorem dX0_readLetter_0 : decode cX0_readLetter 0 = .ok (.aload_n 0, 1) := by decide +kernel
theorem dX0_readLetter_1 : decode cX0_readLetter 1 = .ok (.invokevirtual 39, 3) := by decide +kernel
theorem dX0_readLetter_4 : decode cX0_readLetter 4 = .ok (.iload_n 1, 1) := by decide +kernel
theorem dX0_readLetter_5 : decode cX0_readLetter 5 = .ok (.if_icmp .eq 5, 3) := by decide +kernel
theorem dX0_readLetter_8 : decode cX0_readLetter 8 = .ok (.iconst 0, 1) := by decide +kernel
theorem dX0_readLetter_9 : decode cX0_readLetter 9 = .ok (.ireturn, 1) := by decide +kernel
theorem dX0_readLetter_10 : decode cX0_readLetter 10 = .ok (.aload_n 0, 1) := by decide +kernel
theorem dX0_readLetter_11 : decode cX0_readLetter 11 = .ok (.dup, 1) := by decide +kernel
theorem dX0_readLetter_12 : decode cX0_readLetter 12 = .ok (.getfield 32, 3) := by decide +kernel
theorem dX0_readLetter_15 : decode cX0_readLetter 15 = .ok (.iconst 1, 1) := by decide +kernel
theorem dX0_readLetter_16 : decode cX0_readLetter 16 = .ok (.iadd, 1) := by decide +kernel
theorem dX0_readLetter_17 : decode cX0_readLetter 17 = .ok (.putfield 32, 3) := by decide +kernel
theorem dX0_readLetter_20 : decode cX0_readLetter 20 = .ok (.iconst 1, 1) := by decide +kernel
theorem dX0_readLetter_21 : decode cX0_readLetter 21 = .ok (.ireturn, 1) := by decide +kernel
theorem dX0_letterHere_0 : decode cX0_letterHere 0 = .ok (.aload_n 0, 1) := by decide +kernel
theorem dX0_letterHere_1 : decode cX0_letterHere 1 = .ok (.getfield 32, 3) := by decide +kernel
theorem dX0_letterHere_4 : decode cX0_letterHere 4 = .ok (.aload_n 0, 1) := by decide +kernel
theorem dX0_letterHere_5 : decode cX0_letterHere 5 = .ok (.getfield 25, 3) := by decide +kernel
theorem dX0_letterHere_8 : decode cX0_letterHere 8 = .ok (.if_icmp .ge 15, 3) := by decide +kernel
theorem dX0_letterHere_11 : decode cX0_letterHere 11 = .ok (.aload_n 0, 1) := by decide +kernel
theorem dX0_letterHere_12 : decode cX0_letterHere 12 = .ok (.getfield 11, 3) := by decide +kernel
theorem dX0_letterHere_15 : decode cX0_letterHere 15 = .ok (.aload_n 0, 1) := by decide +kernel
theorem dX0_letterHere_16 : decode cX0_letterHere 16 = .ok (.getfield 32, 3) := by decide +kernel
theorem dX0_letterHere_19 : decode cX0_letterHere 19 = .ok (.caload, 1) := by decide +kernel
theorem dX0_letterHere_20 : decode cX0_letterHere 20 = .ok (.goto 4, 3) := by decide +kernel
theorem dX0_letterHere_23 : decode cX0_letterHere 23 = .ok (.iconst (-1), 1) := by decide +kernel
theorem dX0_letterHere_24 : decode cX0_letterHere 24 = .ok (.ireturn, 1) := by decide +kernel
theorem dX1_init_0 : decode cX1_init 0 = .ok (.aload_n 0, 1) := by decide +kernel
theorem dX1_init_1 : decode cX1_init 1 = .ok (.invokespecial 3, 3) := by decide +kernel
theorem dX1_init_4 : decode cX1_init 4 = .ok (.aload_n 0, 1) := by decide +kernel
theorem dX1_init_5 : decode cX1_init 5 = .ok (.bipush 60, 2) := by decide +kernel
theorem dX1_init_7 : decode cX1_init 7 = .ok (.newarray .boolean, 2) := by decide +kernel
theorem dX1_init_9 : decode cX1_init 9 = .ok (.putfield 9, 3) := by decide +kernel
theorem dX1_init_12 : decode cX1_init 12 = .ok (.aload_n 0, 1) := by decide +kernel
theorem dX1_init_13 : decode cX1_init 13 = .ok (.bipush 60, 2) := by decide +kernel
theorem dX1_init_15 : decode cX1_init 15 = .ok (.newarray .int, 2) := by decide +kernel
theorem dX1_init_17 : decode cX1_init 17 = .ok (.putfield 15, 3) := by decide +kernel
theorem dX1_init_20 : decode cX1_init 20 = .ok (.aload_n 0, 1) := by decide +kernel
theorem dX1_init_21 : decode cX1_init 21 = .ok (.bipush 40, 2) := by decide +kernel
theorem dX1_init_23 : decode cX1_init 23 = .ok (.newarray .int, 2) := by decide +kernel
theorem dX1_init_25 : decode cX1_init 25 = .ok (.putfield 19, 3) := by decide +kernel
theorem dX1_init_28 : decode cX1_init 28 = .ok (.aload_n 0, 1) := by decide +kernel
theorem dX1_init_29 : decode cX1_init 29 = .ok (.bipush 40, 2) := by decide +kernel
theorem dX1_init_31 : decode cX1_init 31 = .ok (.newarray .int, 2) := by decide +kernel
theorem dX1_init_33 : decode cX1_init 33 = .ok (.putfield 22, 3) := by decide +kernel
theorem dX1_init_36 : decode cX1_init 36 = .ok (.aload_n 0, 1) := by decide +kernel
theorem dX1_init_37 : decode cX1_init 37 = .ok (.bipush 40, 2) := by decide +kernel
theorem dX1_init_39 : decode cX1_init 39 = .ok (.newarray .int, 2) := by decide +kernel
theorem dX1_init_41 : decode cX1_init 41 = .ok (.putfield 25, 3) := by decide +kernel
theorem dX1_init_44 : decode cX1_init 44 = .ok (.aload_n 0, 1) := by decide +kernel
theorem dX1_init_45 : decode cX1_init 45 = .ok (.bipush 40, 2) := by decide +kernel
theorem dX1_init_47 : decode cX1_init 47 = .ok (.newarray .int, 2) := by decide +kernel
theorem dX1_init_49 : decode cX1_init 49 = .ok (.putfield 28, 3) := by decide +kernel
theorem dX1_init_52 : decode cX1_init 52 = .ok (.aload_n 0, 1) := by decide +kernel
theorem dX1_init_53 : decode cX1_init 53 = .ok (.bipush 40, 2) := by decide +kernel
theorem dX1_init_55 : decode cX1_init 55 = .ok (.newarray .int, 2) := by decide +kernel
theorem dX1_init_57 : decode cX1_init 57 = .ok (.putfield 31, 3) := by decide +kernel
theorem dX1_init_60 : decode cX1_init 60 = .ok (.aload_n 0, 1) := by decide +kernel
theorem dX1_init_61 : decode cX1_init 61 = .ok (.new 34, 3) := by decide +kernel
theorem dX1_init_64 : decode cX1_init 64 = .ok (.dup, 1) := by decide +kernel
theorem dX1_init_65 : decode cX1_init 65 = .ok (.invokespecial 36, 3) := by decide +kernel
theorem dX1_init_68 : decode cX1_init 68 = .ok (.putfield 37, 3) := by decide +kernel
theorem dX1_init_71 : decode cX1_init 71 = .ok (.iconst 0, 1) := by decide +kernel
theorem dX1_init_72 : decode cX1_init 72 = .ok (.istore_n 1, 1) := by decide +kernel
theorem dX1_init_73 : decode cX1_init 73 = .ok (.iload_n 1, 1) := by decide +kernel
theorem dX1_init_74 : decode cX1_init 74 = .ok (.bipush 60, 2) := by decide +kernel
theorem dX1_init_76 : decode cX1_init 76 = .ok (.if_icmp .ge 16, 3) := by decide +kernel
theorem dX1_init_79 : decode cX1_init 79 = .ok (.aload_n 0, 1) := by decide +kernel
theorem dX1_init_80 : decode cX1_init 80 = .ok (.getfield 15, 3) := by decide +kernel
theorem dX1_init_83 : decode cX1_init 83 = .ok (.iload_n 1, 1) := by decide +kernel
theorem dX1_init_84 : decode cX1_init 84 = .ok (.iconst (-1), 1) := by decide +kernel
theorem dX1_init_85 : decode cX1_init 85 = .ok (.iastore, 1) := by decide +kernel
theorem dX1_init_86 : decode cX1_init 86 = .ok (.iinc 1 1, 3) := by decide +kernel
theorem dX1_init_89 : decode cX1_init 89 = .ok (.goto (-16), 3) := by decide +kernel
theorem dX1_init_92 : decode cX1_init 92 = .ok (.return_, 1) := by decide +kernel
theorem dX1_copyFrom_0 : decode cX1_copyFrom 0 = .ok (.aload_n 1, 1) := by decide +kernel
theorem dX1_copyFrom_1 : decode cX1_copyFrom 1 = .ok (.getfield 9, 3) := by decide +kernel
theorem dX1_copyFrom_4 : decode cX1_copyFrom 4 = .ok (.iconst 0, 1) := by decide +kernel
theorem dX1_copyFrom_5 : decode cX1_copyFrom 5 = .ok (.aload_n 0, 1) := by decide +kernel
theorem dX1_copyFrom_6 : decode cX1_copyFrom 6 = .ok (.getfield 9, 3) := by decide +kernel
theorem dX1_copyFrom_9 : decode cX1_copyFrom 9 = .ok (.iconst 0, 1) := by decide +kernel
theorem dX1_copyFrom_10 : decode cX1_copyFrom 10 = .ok (.bipush 60, 2) := by decide +kernel
theorem dX1_copyFrom_12 : decode cX1_copyFrom 12 = .ok (.invokestatic 41, 3) := by decide +kernel
theorem dX1_copyFrom_15 : decode cX1_copyFrom 15 = .ok (.aload_n 1, 1) := by decide +kernel
theorem dX1_copyFrom_16 : decode cX1_copyFrom 16 = .ok (.getfield 15, 3) := by decide +kernel
theorem dX1_copyFrom_19 : decode cX1_copyFrom 19 = .ok (.iconst 0, 1) := by decide +kernel
theorem dX1_copyFrom_20 : decode cX1_copyFrom 20 = .ok (.aload_n 0, 1) := by decide +kernel
theorem dX1_copyFrom_21 : decode cX1_copyFrom 21 = .ok (.getfield 15, 3) := by decide +kernel
theorem dX1_copyFrom_24 : decode cX1_copyFrom 24 = .ok (.iconst 0, 1) := by decide +kernel
theorem dX1_copyFrom_25 : decode cX1_copyFrom 25 = .ok (.bipush 60, 2) := by decide +kernel
theorem dX1_copyFrom_27 : decode cX1_copyFrom 27 = .ok (.invokestatic 41, 3) := by decide +kernel
theorem dX1_copyFrom_30 : decode cX1_copyFrom 30 = .ok (.aload_n 1, 1) := by decide +kernel
theorem dX1_copyFrom_31 : decode cX1_copyFrom 31 = .ok (.getfield 19, 3) := by decide +kernel
theorem dX1_copyFrom_34 : decode cX1_copyFrom 34 = .ok (.iconst 0, 1) := by decide +kernel
theorem dX1_copyFrom_35 : decode cX1_copyFrom 35 = .ok (.aload_n 0, 1) := by decide +kernel
theorem dX1_copyFrom_36 : decode cX1_copyFrom 36 = .ok (.getfield 19, 3) := by decide +kernel
theorem dX1_copyFrom_39 : decode cX1_copyFrom 39 = .ok (.iconst 0, 1) := by decide +kernel
theorem dX1_copyFrom_40 : decode cX1_copyFrom 40 = .ok (.bipush 40, 2) := by decide +kernel
theorem dX1_copyFrom_42 : decode cX1_copyFrom 42 = .ok (.invokestatic 41, 3) := by decide +kernel
theorem dX1_copyFrom_45 : decode cX1_copyFrom 45 = .ok (.aload_n 1, 1) := by decide +kernel
theorem dX1_copyFrom_46 : decode cX1_copyFrom 46 = .ok (.getfield 22, 3) := by decide +kernel
theorem dX1_copyFrom_49 : decode cX1_copyFrom 49 = .ok (.iconst 0, 1) := by decide +kernel
theorem dX1_copyFrom_50 : decode cX1_copyFrom 50 = .ok (.aload_n 0, 1) := by decide +kernel
theorem dX1_copyFrom_51 : decode cX1_copyFrom 51 = .ok (.getfield 22, 3) := by decide +kernel
theorem dX1_copyFrom_54 : decode cX1_copyFrom 54 = .ok (.iconst 0, 1) := by decide +kernel
theorem dX1_copyFrom_55 : decode cX1_copyFrom 55 = .ok (.bipush 40, 2) := by decide +kernel
theorem dX1_copyFrom_57 : decode cX1_copyFrom 57 = .ok (.invokestatic 41, 3) := by decide +kernel
theorem dX1_copyFrom_60 : decode cX1_copyFrom 60 = .ok (.aload_n 1, 1) := by decide +kernel
theorem dX1_copyFrom_61 : decode cX1_copyFrom 61 = .ok (.getfield 25, 3) := by decide +kernel
theorem dX1_copyFrom_64 : decode cX1_copyFrom 64 = .ok (.iconst 0, 1) := by decide +kernel
theorem dX1_copyFrom_65 : decode cX1_copyFrom 65 = .ok (.aload_n 0, 1) := by decide +kernel
theorem dX1_copyFrom_66 : decode cX1_copyFrom 66 = .ok (.getfield 25, 3) := by decide +kernel
theorem dX1_copyFrom_69 : decode cX1_copyFrom 69 = .ok (.iconst 0, 1) := by decide +kernel
theorem dX1_copyFrom_70 : decode cX1_copyFrom 70 = .ok (.bipush 40, 2) := by decide +kernel
theorem dX1_copyFrom_72 : decode cX1_copyFrom 72 = .ok (.invokestatic 41, 3) := by decide +kernel
theorem dX1_copyFrom_75 : decode cX1_copyFrom 75 = .ok (.aload_n 1, 1) := by decide +kernel
theorem dX1_copyFrom_76 : decode cX1_copyFrom 76 = .ok (.getfield 28, 3) := by decide +kernel
theorem dX1_copyFrom_79 : decode cX1_copyFrom 79 = .ok (.iconst 0, 1) := by decide +kernel
theorem dX1_copyFrom_80 : decode cX1_copyFrom 80 = .ok (.aload_n 0, 1) := by decide +kernel
theorem dX1_copyFrom_81 : decode cX1_copyFrom 81 = .ok (.getfield 28, 3) := by decide +kernel
theorem dX1_copyFrom_84 : decode cX1_copyFrom 84 = .ok (.iconst 0, 1) := by decide +kernel
theorem dX1_copyFrom_85 : decode cX1_copyFrom 85 = .ok (.bipush 40, 2) := by decide +kernel
theorem dX1_copyFrom_87 : decode cX1_copyFrom 87 = .ok (.invokestatic 41, 3) := by decide +kernel
theorem dX1_copyFrom_90 : decode cX1_copyFrom 90 = .ok (.aload_n 0, 1) := by decide +kernel
theorem dX1_copyFrom_91 : decode cX1_copyFrom 91 = .ok (.getfield 37, 3) := by decide +kernel
theorem dX1_copyFrom_94 : decode cX1_copyFrom 94 = .ok (.aload_n 1, 1) := by decide +kernel
theorem dX1_copyFrom_95 : decode cX1_copyFrom 95 = .ok (.getfield 37, 3) := by decide +kernel
theorem dX1_copyFrom_98 : decode cX1_copyFrom 98 = .ok (.invokevirtual 47, 3) := by decide +kernel
theorem dX1_copyFrom_101 : decode cX1_copyFrom 101 = .ok (.aload_n 0, 1) := by decide +kernel
theorem dX1_copyFrom_102 : decode cX1_copyFrom 102 = .ok (.aload_n 1, 1) := by decide +kernel
theorem dX1_copyFrom_103 : decode cX1_copyFrom 103 = .ok (.getfield 51, 3) := by decide +kernel
theorem dX1_copyFrom_106 : decode cX1_copyFrom 106 = .ok (.putfield 51, 3) := by decide +kernel
theorem dX1_copyFrom_109 : decode cX1_copyFrom 109 = .ok (.aload_n 0, 1) := by decide +kernel
theorem dX1_copyFrom_110 : decode cX1_copyFrom 110 = .ok (.aload_n 1, 1) := by decide +kernel
theorem dX1_copyFrom_111 : decode cX1_copyFrom 111 = .ok (.getfield 55, 3) := by decide +kernel
theorem dX1_copyFrom_114 : decode cX1_copyFrom 114 = .ok (.putfield 55, 3) := by decide +kernel
theorem dX1_copyFrom_117 : decode cX1_copyFrom 117 = .ok (.aload_n 0, 1) := by decide +kernel
theorem dX1_copyFrom_118 : decode cX1_copyFrom 118 = .ok (.aload_n 1, 1) := by decide +kernel
theorem dX1_copyFrom_119 : decode cX1_copyFrom 119 = .ok (.getfield 58, 3) := by decide +kernel
theorem dX1_copyFrom_122 : decode cX1_copyFrom 122 = .ok (.putfield 58, 3) := by decide +kernel
theorem dX1_copyFrom_125 : decode cX1_copyFrom 125 = .ok (.return_, 1) := by decide +kernel
theorem dX1_time_0 : decode cX1_time 0 = .ok (.aload_n 0, 1) := by decide +kernel
theorem dX1_time_1 : decode cX1_time 1 = .ok (.getfield 37, 3) := by decide +kernel
theorem dX1_time_4 : decode cX1_time 4 = .ok (.getfield 61, 3) := by decide +kernel
theorem dX1_time_7 : decode cX1_time 7 = .ok (.ireturn, 1) := by decide +kernel
theorem dX1_log_0 : decode cX1_log 0 = .ok (.aload_n 0, 1) := by decide +kernel
theorem dX1_log_1 : decode cX1_log 1 = .ok (.getfield 37, 3) := by decide +kernel
theorem dX1_log_4 : decode cX1_log 4 = .ok (.getfield 64, 3) := by decide +kernel
theorem dX1_log_7 : decode cX1_log 7 = .ok (.areturn, 1) := by decide +kernel
theorem dX1_machineOf_0 : decode cX1_machineOf 0 = .ok (.aload_n 0, 1) := by decide +kernel
theorem dX1_machineOf_1 : decode cX1_machineOf 1 = .ok (.getfield 37, 3) := by decide +kernel
theorem dX1_machineOf_4 : decode cX1_machineOf 4 = .ok (.getfield 68, 3) := by decide +kernel
theorem dX1_machineOf_7 : decode cX1_machineOf 7 = .ok (.iload_n 1, 1) := by decide +kernel
theorem dX1_machineOf_8 : decode cX1_machineOf 8 = .ok (.aaload, 1) := by decide +kernel
theorem dX1_machineOf_9 : decode cX1_machineOf 9 = .ok (.areturn, 1) := by decide +kernel
theorem dX1_came_0 : decode cX1_came 0 = .ok (.aload_n 0, 1) := by decide +kernel
theorem dX1_came_1 : decode cX1_came 1 = .ok (.getfield 51, 3) := by decide +kernel
theorem dX1_came_4 : decode cX1_came 4 = .ok (.ireturn, 1) := by decide +kernel
theorem dX1_moved_0 : decode cX1_moved 0 = .ok (.aload_n 0, 1) := by decide +kernel
theorem dX1_moved_1 : decode cX1_moved 1 = .ok (.getfield 58, 3) := by decide +kernel
theorem dX1_moved_4 : decode cX1_moved 4 = .ok (.ireturn, 1) := by decide +kernel
theorem dX1_countStored_0 : decode cX1_countStored 0 = .ok (.aload_n 0, 1) := by decide +kernel
theorem dX1_countStored_1 : decode cX1_countStored 1 = .ok (.getfield 55, 3) := by decide +kernel
theorem dX1_countStored_4 : decode cX1_countStored 4 = .ok (.ireturn, 1) := by decide +kernel
theorem dX1_isFull_0 : decode cX1_isFull 0 = .ok (.aload_n 0, 1) := by decide +kernel
theorem dX1_isFull_1 : decode cX1_isFull 1 = .ok (.getfield 51, 3) := by decide +kernel
theorem dX1_isFull_4 : decode cX1_isFull 4 = .ok (.bipush 40, 2) := by decide +kernel
theorem dX1_isFull_6 : decode cX1_isFull 6 = .ok (.if_icmp .lt 7, 3) := by decide +kernel
theorem dX1_isFull_9 : decode cX1_isFull 9 = .ok (.iconst 1, 1) := by decide +kernel
theorem dX1_isFull_10 : decode cX1_isFull 10 = .ok (.goto 4, 3) := by decide +kernel
theorem dX1_isFull_13 : decode cX1_isFull 13 = .ok (.iconst 0, 1) := by decide +kernel
theorem dX1_isFull_14 : decode cX1_isFull 14 = .ok (.ireturn, 1) := by decide +kernel
theorem dX1_isStored_0 : decode cX1_isStored 0 = .ok (.iload_n 1, 1) := by decide +kernel
theorem dX1_isStored_1 : decode cX1_isStored 1 = .ok (.ifCond .lt 25, 3) := by decide +kernel
theorem dX1_isStored_4 : decode cX1_isStored 4 = .ok (.iload_n 1, 1) := by decide +kernel
theorem dX1_isStored_5 : decode cX1_isStored 5 = .ok (.aload_n 0, 1) := by decide +kernel
theorem dX1_isStored_6 : decode cX1_isStored 6 = .ok (.getfield 51, 3) := by decide +kernel
theorem dX1_isStored_9 : decode cX1_isStored 9 = .ok (.if_icmp .ge 17, 3) := by decide +kernel
theorem dX1_isStored_12 : decode cX1_isStored 12 = .ok (.aload_n 0, 1) := by decide +kernel
theorem dX1_isStored_13 : decode cX1_isStored 13 = .ok (.getfield 25, 3) := by decide +kernel
theorem dX1_isStored_16 : decode cX1_isStored 16 = .ok (.iload_n 1, 1) := by decide +kernel
theorem dX1_isStored_17 : decode cX1_isStored 17 = .ok (.iaload, 1) := by decide +kernel
theorem dX1_isStored_18 : decode cX1_isStored 18 = .ok (.iconst (-1), 1) := by decide +kernel
theorem dX1_isStored_19 : decode cX1_isStored 19 = .ok (.if_icmp .eq 7, 3) := by decide +kernel
theorem dX1_isStored_22 : decode cX1_isStored 22 = .ok (.iconst 1, 1) := by decide +kernel
theorem dX1_isStored_23 : decode cX1_isStored 23 = .ok (.goto 4, 3) := by decide +kernel
theorem dX1_isStored_26 : decode cX1_isStored 26 = .ok (.iconst 0, 1) := by decide +kernel
theorem dX1_isStored_27 : decode cX1_isStored 27 = .ok (.ireturn, 1) := by decide +kernel
theorem dX1_sizeOf_0 : decode cX1_sizeOf 0 = .ok (.aload_n 0, 1) := by decide +kernel
theorem dX1_sizeOf_1 : decode cX1_sizeOf 1 = .ok (.getfield 19, 3) := by decide +kernel
theorem dX1_sizeOf_4 : decode cX1_sizeOf 4 = .ok (.iload_n 1, 1) := by decide +kernel
theorem dX1_sizeOf_5 : decode cX1_sizeOf 5 = .ok (.iaload, 1) := by decide +kernel
theorem dX1_sizeOf_6 : decode cX1_sizeOf 6 = .ok (.ireturn, 1) := by decide +kernel
theorem dX1_pickupOf_0 : decode cX1_pickupOf 0 = .ok (.aload_n 0, 1) := by decide +kernel
theorem dX1_pickupOf_1 : decode cX1_pickupOf 1 = .ok (.getfield 22, 3) := by decide +kernel
theorem dX1_pickupOf_4 : decode cX1_pickupOf 4 = .ok (.iload_n 1, 1) := by decide +kernel
theorem dX1_pickupOf_5 : decode cX1_pickupOf 5 = .ok (.iaload, 1) := by decide +kernel
theorem dX1_pickupOf_6 : decode cX1_pickupOf 6 = .ok (.ireturn, 1) := by decide +kernel
theorem dX1_bayOf_0 : decode cX1_bayOf 0 = .ok (.aload_n 0, 1) := by decide +kernel
theorem dX1_bayOf_1 : decode cX1_bayOf 1 = .ok (.getfield 25, 3) := by decide +kernel
theorem dX1_bayOf_4 : decode cX1_bayOf 4 = .ok (.iload_n 1, 1) := by decide +kernel
theorem dX1_bayOf_5 : decode cX1_bayOf 5 = .ok (.iaload, 1) := by decide +kernel
theorem dX1_bayOf_6 : decode cX1_bayOf 6 = .ok (.ireturn, 1) := by decide +kernel
theorem dX1_jobsOf_0 : decode cX1_jobsOf 0 = .ok (.aload_n 0, 1) := by decide +kernel
theorem dX1_jobsOf_1 : decode cX1_jobsOf 1 = .ok (.getfield 28, 3) := by decide +kernel
theorem dX1_jobsOf_4 : decode cX1_jobsOf 4 = .ok (.iload_n 1, 1) := by decide +kernel
theorem dX1_jobsOf_5 : decode cX1_jobsOf 5 = .ok (.iaload, 1) := by decide +kernel
theorem dX1_jobsOf_6 : decode cX1_jobsOf 6 = .ok (.ireturn, 1) := by decide +kernel
theorem dX1_blockerOf_0 : decode cX1_blockerOf 0 = .ok (.aload_n 0, 1) := by decide +kernel
theorem dX1_blockerOf_1 : decode cX1_blockerOf 1 = .ok (.iload_n 1, 1) := by decide +kernel
theorem dX1_blockerOf_2 : decode cX1_blockerOf 2 = .ok (.invokevirtual 72, 3) := by decide +kernel
theorem dX1_blockerOf_5 : decode cX1_blockerOf 5 = .ok (.ifCond .eq 16, 3) := by decide +kernel
theorem dX1_blockerOf_8 : decode cX1_blockerOf 8 = .ok (.aload_n 0, 1) := by decide +kernel
theorem dX1_blockerOf_9 : decode cX1_blockerOf 9 = .ok (.aload_n 0, 1) := by decide +kernel
theorem dX1_blockerOf_10 : decode cX1_blockerOf 10 = .ok (.getfield 25, 3) := by decide +kernel
theorem dX1_blockerOf_13 : decode cX1_blockerOf 13 = .ok (.iload_n 1, 1) := by decide +kernel
theorem dX1_blockerOf_14 : decode cX1_blockerOf 14 = .ok (.iaload, 1) := by decide +kernel
theorem dX1_blockerOf_15 : decode cX1_blockerOf 15 = .ok (.invokevirtual 76, 3) := by decide +kernel
theorem dX1_blockerOf_18 : decode cX1_blockerOf 18 = .ok (.goto 4, 3) := by decide +kernel
theorem dX1_blockerOf_21 : decode cX1_blockerOf 21 = .ok (.iconst (-1), 1) := by decide +kernel
theorem dX1_blockerOf_22 : decode cX1_blockerOf 22 = .ok (.ireturn, 1) := by decide +kernel
theorem dX1_isClosed_0 : decode cX1_isClosed 0 = .ok (.aload_n 0, 1) := by decide +kernel
theorem dX1_isClosed_1 : decode cX1_isClosed 1 = .ok (.getfield 9, 3) := by decide +kernel
theorem dX1_isClosed_4 : decode cX1_isClosed 4 = .ok (.iload_n 1, 1) := by decide +kernel
theorem dX1_isClosed_5 : decode cX1_isClosed 5 = .ok (.baload, 1) := by decide +kernel
theorem dX1_isClosed_6 : decode cX1_isClosed 6 = .ok (.ireturn, 1) := by decide +kernel
theorem dX1_carIn_0 : decode cX1_carIn 0 = .ok (.aload_n 0, 1) := by decide +kernel
theorem dX1_carIn_1 : decode cX1_carIn 1 = .ok (.getfield 15, 3) := by decide +kernel
theorem dX1_carIn_4 : decode cX1_carIn 4 = .ok (.iload_n 1, 1) := by decide +kernel
theorem dX1_carIn_5 : decode cX1_carIn 5 = .ok (.iaload, 1) := by decide +kernel
theorem dX1_carIn_6 : decode cX1_carIn 6 = .ok (.ireturn, 1) := by decide +kernel
theorem dX1_carBefore_0 : decode cX1_carBefore 0 = .ok (.iload_n 1, 1) := by decide +kernel
theorem dX1_carBefore_1 : decode cX1_carBefore 1 = .ok (.invokestatic 80, 3) := by decide +kernel
theorem dX1_carBefore_4 : decode cX1_carBefore 4 = .ok (.iconst 1, 1) := by decide +kernel
theorem dX1_carBefore_5 : decode cX1_carBefore 5 = .ok (.if_icmp .ne 14, 3) := by decide +kernel
theorem dX1_carBefore_8 : decode cX1_carBefore 8 = .ok (.aload_n 0, 1) := by decide +kernel
theorem dX1_carBefore_9 : decode cX1_carBefore 9 = .ok (.getfield 15, 3) := by decide +kernel
theorem dX1_carBefore_12 : decode cX1_carBefore 12 = .ok (.iload_n 1, 1) := by decide +kernel
theorem dX1_carBefore_13 : decode cX1_carBefore 13 = .ok (.iconst 1, 1) := by decide +kernel
theorem dX1_carBefore_14 : decode cX1_carBefore 14 = .ok (.isub, 1) := by decide +kernel
theorem dX1_carBefore_15 : decode cX1_carBefore 15 = .ok (.iaload, 1) := by decide +kernel
theorem dX1_carBefore_16 : decode cX1_carBefore 16 = .ok (.goto 4, 3) := by decide +kernel
theorem dX1_carBefore_19 : decode cX1_carBefore 19 = .ok (.iconst (-1), 1) := by decide +kernel
theorem dX1_carBefore_20 : decode cX1_carBefore 20 = .ok (.ireturn, 1) := by decide +kernel
theorem dX1_storedUntil_0 : decode cX1_storedUntil 0 = .ok (.lconst 0, 1) := by decide +kernel
theorem dX1_storedUntil_1 : decode cX1_storedUntil 1 = .ok (.lstore_n 2, 1) := by decide +kernel
theorem dX1_storedUntil_2 : decode cX1_storedUntil 2 = .ok (.iconst 0, 1) := by decide +kernel
theorem dX1_storedUntil_3 : decode cX1_storedUntil 3 = .ok (.istore 4, 2) := by decide +kernel
theorem dX1_storedUntil_5 : decode cX1_storedUntil 5 = .ok (.iload 4, 2) := by decide +kernel
theorem dX1_storedUntil_7 : decode cX1_storedUntil 7 = .ok (.aload_n 0, 1) := by decide +kernel
theorem dX1_storedUntil_8 : decode cX1_storedUntil 8 = .ok (.getfield 51, 3) := by decide +kernel
theorem dX1_storedUntil_11 : decode cX1_storedUntil 11 = .ok (.if_icmp .ge 36, 3) := by decide +kernel
theorem dX1_storedUntil_14 : decode cX1_storedUntil 14 = .ok (.aload_n 0, 1) := by decide +kernel
theorem dX1_storedUntil_15 : decode cX1_storedUntil 15 = .ok (.iload 4, 2) := by decide +kernel
theorem dX1_storedUntil_17 : decode cX1_storedUntil 17 = .ok (.invokevirtual 72, 3) := by decide +kernel
theorem dX1_storedUntil_20 : decode cX1_storedUntil 20 = .ok (.ifCond .eq 21, 3) := by decide +kernel
theorem dX1_storedUntil_23 : decode cX1_storedUntil 23 = .ok (.aload_n 0, 1) := by decide +kernel
theorem dX1_storedUntil_24 : decode cX1_storedUntil 24 = .ok (.getfield 22, 3) := by decide +kernel
theorem dX1_storedUntil_27 : decode cX1_storedUntil 27 = .ok (.iload 4, 2) := by decide +kernel
theorem dX1_storedUntil_29 : decode cX1_storedUntil 29 = .ok (.iaload, 1) := by decide +kernel
theorem dX1_storedUntil_30 : decode cX1_storedUntil 30 = .ok (.iload_n 1, 1) := by decide +kernel
theorem dX1_storedUntil_31 : decode cX1_storedUntil 31 = .ok (.if_icmp .gt 10, 3) := by decide +kernel
theorem dX1_storedUntil_34 : decode cX1_storedUntil 34 = .ok (.lload_n 2, 1) := by decide +kernel
theorem dX1_storedUntil_35 : decode cX1_storedUntil 35 = .ok (.lconst 1, 1) := by decide +kernel
theorem dX1_storedUntil_36 : decode cX1_storedUntil 36 = .ok (.iload 4, 2) := by decide +kernel
theorem dX1_storedUntil_38 : decode cX1_storedUntil 38 = .ok (.lshl, 1) := by decide +kernel
theorem dX1_storedUntil_39 : decode cX1_storedUntil 39 = .ok (.lor, 1) := by decide +kernel
theorem dX1_storedUntil_40 : decode cX1_storedUntil 40 = .ok (.lstore_n 2, 1) := by decide +kernel
theorem dX1_storedUntil_41 : decode cX1_storedUntil 41 = .ok (.iinc 4 1, 3) := by decide +kernel
theorem dX1_storedUntil_44 : decode cX1_storedUntil 44 = .ok (.goto (-39), 3) := by decide +kernel
theorem dX1_storedUntil_47 : decode cX1_storedUntil 47 = .ok (.lload_n 2, 1) := by decide +kernel
theorem dX1_storedUntil_48 : decode cX1_storedUntil 48 = .ok (.lreturn, 1) := by decide +kernel
theorem dX1_blockedCars_0 : decode cX1_blockedCars 0 = .ok (.lconst 0, 1) := by decide +kernel
theorem dX1_blockedCars_1 : decode cX1_blockedCars 1 = .ok (.lstore_n 2, 1) := by decide +kernel
theorem dX1_blockedCars_2 : decode cX1_blockedCars 2 = .ok (.iconst 0, 1) := by decide +kernel
theorem dX1_blockedCars_3 : decode cX1_blockedCars 3 = .ok (.istore 4, 2) := by decide +kernel
theorem dX1_blockedCars_5 : decode cX1_blockedCars 5 = .ok (.iload 4, 2) := by decide +kernel
theorem dX1_blockedCars_7 : decode cX1_blockedCars 7 = .ok (.aload_n 0, 1) := by decide +kernel
theorem dX1_blockedCars_8 : decode cX1_blockedCars 8 = .ok (.getfield 51, 3) := by decide +kernel
theorem dX1_blockedCars_11 : decode cX1_blockedCars 11 = .ok (.if_icmp .ge 51, 3) := by decide +kernel
theorem dX1_blockedCars_14 : decode cX1_blockedCars 14 = .ok (.aload_n 0, 1) := by decide +kernel
theorem dX1_blockedCars_15 : decode cX1_blockedCars 15 = .ok (.iload 4, 2) := by decide +kernel
theorem dX1_blockedCars_17 : decode cX1_blockedCars 17 = .ok (.invokevirtual 83, 3) := by decide +kernel
theorem dX1_blockedCars_20 : decode cX1_blockedCars 20 = .ok (.istore 5, 2) := by decide +kernel
theorem dX1_blockedCars_22 : decode cX1_blockedCars 22 = .ok (.iload 5, 2) := by decide +kernel
theorem dX1_blockedCars_24 : decode cX1_blockedCars 24 = .ok (.iconst (-1), 1) := by decide +kernel
theorem dX1_blockedCars_25 : decode cX1_blockedCars 25 = .ok (.if_icmp .eq 31, 3) := by decide +kernel
theorem dX1_blockedCars_28 : decode cX1_blockedCars 28 = .ok (.iload_n 1, 1) := by decide +kernel
theorem dX1_blockedCars_29 : decode cX1_blockedCars 29 = .ok (.ifCond .eq 20, 3) := by decide +kernel
theorem dX1_blockedCars_32 : decode cX1_blockedCars 32 = .ok (.aload_n 0, 1) := by decide +kernel
theorem dX1_blockedCars_33 : decode cX1_blockedCars 33 = .ok (.getfield 22, 3) := by decide +kernel
theorem dX1_blockedCars_36 : decode cX1_blockedCars 36 = .ok (.iload 4, 2) := by decide +kernel
theorem dX1_blockedCars_38 : decode cX1_blockedCars 38 = .ok (.iaload, 1) := by decide +kernel
theorem dX1_blockedCars_39 : decode cX1_blockedCars 39 = .ok (.aload_n 0, 1) := by decide +kernel
theorem dX1_blockedCars_40 : decode cX1_blockedCars 40 = .ok (.getfield 22, 3) := by decide +kernel
theorem dX1_blockedCars_43 : decode cX1_blockedCars 43 = .ok (.iload 5, 2) := by decide +kernel
theorem dX1_blockedCars_45 : decode cX1_blockedCars 45 = .ok (.iaload, 1) := by decide +kernel
theorem dX1_blockedCars_46 : decode cX1_blockedCars 46 = .ok (.if_icmp .ge 10, 3) := by decide +kernel
theorem dX1_blockedCars_49 : decode cX1_blockedCars 49 = .ok (.lload_n 2, 1) := by decide +kernel
theorem dX1_blockedCars_50 : decode cX1_blockedCars 50 = .ok (.lconst 1, 1) := by decide +kernel
theorem dX1_blockedCars_51 : decode cX1_blockedCars 51 = .ok (.iload 4, 2) := by decide +kernel
theorem dX1_blockedCars_53 : decode cX1_blockedCars 53 = .ok (.lshl, 1) := by decide +kernel
theorem dX1_blockedCars_54 : decode cX1_blockedCars 54 = .ok (.lor, 1) := by decide +kernel
theorem dX1_blockedCars_55 : decode cX1_blockedCars 55 = .ok (.lstore_n 2, 1) := by decide +kernel
theorem dX1_blockedCars_56 : decode cX1_blockedCars 56 = .ok (.iinc 4 1, 3) := by decide +kernel
theorem dX1_blockedCars_59 : decode cX1_blockedCars 59 = .ok (.goto (-54), 3) := by decide +kernel
theorem dX1_blockedCars_62 : decode cX1_blockedCars 62 = .ok (.lload_n 2, 1) := by decide +kernel
theorem dX1_blockedCars_63 : decode cX1_blockedCars 63 = .ok (.lreturn, 1) := by decide +kernel
theorem dX1_countOpenWithoutCar_0 : decode cX1_countOpenWithoutCar 0 = .ok (.iconst 0, 1) := by decide +kernel
theorem dX1_countOpenWithoutCar_1 : decode cX1_countOpenWithoutCar 1 = .ok (.istore_n 2, 1) := by decide +kernel
theorem dX1_countOpenWithoutCar_2 : decode cX1_countOpenWithoutCar 2 = .ok (.iconst 0, 1) := by decide +kernel
theorem dX1_countOpenWithoutCar_3 : decode cX1_countOpenWithoutCar 3 = .ok (.istore_n 3, 1) := by decide +kernel
theorem dX1_countOpenWithoutCar_4 : decode cX1_countOpenWithoutCar 4 = .ok (.iload_n 3, 1) := by decide +kernel
theorem dX1_countOpenWithoutCar_5 : decode cX1_countOpenWithoutCar 5 = .ok (.bipush 60, 2) := by decide +kernel
theorem dX1_countOpenWithoutCar_7 : decode cX1_countOpenWithoutCar 7 = .ok (.if_icmp .ge 44, 3) := by decide +kernel
theorem dX1_countOpenWithoutCar_10 : decode cX1_countOpenWithoutCar 10 = .ok (.aload_n 0, 1) := by decide +kernel
theorem dX1_countOpenWithoutCar_11 : decode cX1_countOpenWithoutCar 11 = .ok (.getfield 9, 3) := by decide +kernel
theorem dX1_countOpenWithoutCar_14 : decode cX1_countOpenWithoutCar 14 = .ok (.iload_n 3, 1) := by decide +kernel
theorem dX1_countOpenWithoutCar_15 : decode cX1_countOpenWithoutCar 15 = .ok (.baload, 1) := by decide +kernel
theorem dX1_countOpenWithoutCar_16 : decode cX1_countOpenWithoutCar 16 = .ok (.ifCond .ne 29, 3) := by decide +kernel
theorem dX1_countOpenWithoutCar_19 : decode cX1_countOpenWithoutCar 19 = .ok (.aload_n 0, 1) := by decide +kernel
theorem dX1_countOpenWithoutCar_20 : decode cX1_countOpenWithoutCar 20 = .ok (.getfield 15, 3) := by decide +kernel
theorem dX1_countOpenWithoutCar_23 : decode cX1_countOpenWithoutCar 23 = .ok (.iload_n 3, 1) := by decide +kernel
theorem dX1_countOpenWithoutCar_24 : decode cX1_countOpenWithoutCar 24 = .ok (.iaload, 1) := by decide +kernel
theorem dX1_countOpenWithoutCar_25 : decode cX1_countOpenWithoutCar 25 = .ok (.iconst (-1), 1) := by decide +kernel
theorem dX1_countOpenWithoutCar_26 : decode cX1_countOpenWithoutCar 26 = .ok (.if_icmp .ne 19, 3) := by decide +kernel
theorem dX1_countOpenWithoutCar_29 : decode cX1_countOpenWithoutCar 29 = .ok (.iload_n 1, 1) := by decide +kernel
theorem dX1_countOpenWithoutCar_30 : decode cX1_countOpenWithoutCar 30 = .ok (.ifCond .eq 12, 3) := by decide +kernel
theorem dX1_countOpenWithoutCar_33 : decode cX1_countOpenWithoutCar 33 = .ok (.aload_n 0, 1) := by decide +kernel
theorem dX1_countOpenWithoutCar_34 : decode cX1_countOpenWithoutCar 34 = .ok (.iload_n 3, 1) := by decide +kernel
theorem dX1_countOpenWithoutCar_35 : decode cX1_countOpenWithoutCar 35 = .ok (.invokevirtual 76, 3) := by decide +kernel
theorem dX1_countOpenWithoutCar_38 : decode cX1_countOpenWithoutCar 38 = .ok (.iconst (-1), 1) := by decide +kernel
theorem dX1_countOpenWithoutCar_39 : decode cX1_countOpenWithoutCar 39 = .ok (.if_icmp .ne 6, 3) := by decide +kernel
theorem dX1_countOpenWithoutCar_42 : decode cX1_countOpenWithoutCar 42 = .ok (.iinc 2 1, 3) := by decide +kernel
theorem dX1_countOpenWithoutCar_45 : decode cX1_countOpenWithoutCar 45 = .ok (.iinc 3 1, 3) := by decide +kernel
theorem dX1_countOpenWithoutCar_48 : decode cX1_countOpenWithoutCar 48 = .ok (.goto (-44), 3) := by decide +kernel
theorem dX1_countOpenWithoutCar_51 : decode cX1_countOpenWithoutCar 51 = .ok (.iload_n 2, 1) := by decide +kernel
theorem dX1_countOpenWithoutCar_52 : decode cX1_countOpenWithoutCar 52 = .ok (.ireturn, 1) := by decide +kernel
theorem dX1_countClosed_0 : decode cX1_countClosed 0 = .ok (.iconst 0, 1) := by decide +kernel
theorem dX1_countClosed_1 : decode cX1_countClosed 1 = .ok (.istore_n 1, 1) := by decide +kernel
theorem dX1_countClosed_2 : decode cX1_countClosed 2 = .ok (.iconst 0, 1) := by decide +kernel
theorem dX1_countClosed_3 : decode cX1_countClosed 3 = .ok (.istore_n 2, 1) := by decide +kernel
theorem dX1_countClosed_4 : decode cX1_countClosed 4 = .ok (.iload_n 2, 1) := by decide +kernel
theorem dX1_countClosed_5 : decode cX1_countClosed 5 = .ok (.bipush 60, 2) := by decide +kernel
theorem dX1_countClosed_7 : decode cX1_countClosed 7 = .ok (.if_icmp .ge 21, 3) := by decide +kernel
theorem dX1_countClosed_10 : decode cX1_countClosed 10 = .ok (.aload_n 0, 1) := by decide +kernel
theorem dX1_countClosed_11 : decode cX1_countClosed 11 = .ok (.getfield 9, 3) := by decide +kernel
theorem dX1_countClosed_14 : decode cX1_countClosed 14 = .ok (.iload_n 2, 1) := by decide +kernel
theorem dX1_countClosed_15 : decode cX1_countClosed 15 = .ok (.baload, 1) := by decide +kernel
theorem dX1_countClosed_16 : decode cX1_countClosed 16 = .ok (.ifCond .eq 6, 3) := by decide +kernel
theorem dX1_countClosed_19 : decode cX1_countClosed 19 = .ok (.iinc 1 1, 3) := by decide +kernel
theorem dX1_countClosed_22 : decode cX1_countClosed 22 = .ok (.iinc 2 1, 3) := by decide +kernel
theorem dX1_countClosed_25 : decode cX1_countClosed 25 = .ok (.goto (-21), 3) := by decide +kernel
theorem dX1_countClosed_28 : decode cX1_countClosed 28 = .ok (.iload_n 1, 1) := by decide +kernel
theorem dX1_countClosed_29 : decode cX1_countClosed 29 = .ok (.ireturn, 1) := by decide +kernel
theorem dX1_listByPickup_0 : decode cX1_listByPickup 0 = .ok (.iconst 0, 1) := by decide +kernel
theorem dX1_listByPickup_1 : decode cX1_listByPickup 1 = .ok (.istore 4, 2) := by decide +kernel
theorem dX1_listByPickup_3 : decode cX1_listByPickup 3 = .ok (.iconst 0, 1) := by decide +kernel
theorem dX1_listByPickup_4 : decode cX1_listByPickup 4 = .ok (.istore 5, 2) := by decide +kernel
theorem dX1_listByPickup_6 : decode cX1_listByPickup 6 = .ok (.iload 5, 2) := by decide +kernel
theorem dX1_listByPickup_8 : decode cX1_listByPickup 8 = .ok (.aload_n 0, 1) := by decide +kernel
theorem dX1_listByPickup_9 : decode cX1_listByPickup 9 = .ok (.getfield 51, 3) := by decide +kernel
theorem dX1_listByPickup_12 : decode cX1_listByPickup 12 = .ok (.if_icmp .ge 85, 3) := by decide +kernel
theorem dX1_listByPickup_15 : decode cX1_listByPickup 15 = .ok (.iload 4, 2) := by decide +kernel
theorem dX1_listByPickup_17 : decode cX1_listByPickup 17 = .ok (.aload_n 3, 1) := by decide +kernel
theorem dX1_listByPickup_18 : decode cX1_listByPickup 18 = .ok (.arraylength, 1) := by decide +kernel
theorem dX1_listByPickup_19 : decode cX1_listByPickup 19 = .ok (.if_icmp .ge 78, 3) := by decide +kernel
theorem dX1_listByPickup_22 : decode cX1_listByPickup 22 = .ok (.lload_n 1, 1) := by decide +kernel
theorem dX1_listByPickup_23 : decode cX1_listByPickup 23 = .ok (.iload 5, 2) := by decide +kernel
theorem dX1_listByPickup_25 : decode cX1_listByPickup 25 = .ok (.lshr, 1) := by decide +kernel
theorem dX1_listByPickup_26 : decode cX1_listByPickup 26 = .ok (.lconst 1, 1) := by decide +kernel
theorem dX1_listByPickup_27 : decode cX1_listByPickup 27 = .ok (.land, 1) := by decide +kernel
theorem dX1_listByPickup_28 : decode cX1_listByPickup 28 = .ok (.lconst 0, 1) := by decide +kernel
theorem dX1_listByPickup_29 : decode cX1_listByPickup 29 = .ok (.lcmp, 1) := by decide +kernel
theorem dX1_listByPickup_30 : decode cX1_listByPickup 30 = .ok (.ifCond .ne 6, 3) := by decide +kernel
theorem dX1_listByPickup_33 : decode cX1_listByPickup 33 = .ok (.goto 58, 3) := by decide +kernel
theorem dX1_listByPickup_36 : decode cX1_listByPickup 36 = .ok (.iload 4, 2) := by decide +kernel
theorem dX1_listByPickup_38 : decode cX1_listByPickup 38 = .ok (.istore 6, 2) := by decide +kernel
theorem dX1_listByPickup_40 : decode cX1_listByPickup 40 = .ok (.iload 6, 2) := by decide +kernel
theorem dX1_listByPickup_42 : decode cX1_listByPickup 42 = .ok (.ifCond .le 40, 3) := by decide +kernel
theorem dX1_listByPickup_45 : decode cX1_listByPickup 45 = .ok (.aload_n 0, 1) := by decide +kernel
theorem dX1_listByPickup_46 : decode cX1_listByPickup 46 = .ok (.getfield 22, 3) := by decide +kernel
theorem dX1_listByPickup_49 : decode cX1_listByPickup 49 = .ok (.aload_n 3, 1) := by decide +kernel
theorem dX1_listByPickup_50 : decode cX1_listByPickup 50 = .ok (.iload 6, 2) := by decide +kernel
theorem dX1_listByPickup_52 : decode cX1_listByPickup 52 = .ok (.iconst 1, 1) := by decide +kernel
theorem dX1_listByPickup_53 : decode cX1_listByPickup 53 = .ok (.isub, 1) := by decide +kernel
theorem dX1_listByPickup_54 : decode cX1_listByPickup 54 = .ok (.iaload, 1) := by decide +kernel
theorem dX1_listByPickup_55 : decode cX1_listByPickup 55 = .ok (.iaload, 1) := by decide +kernel
theorem dX1_listByPickup_56 : decode cX1_listByPickup 56 = .ok (.aload_n 0, 1) := by decide +kernel
theorem dX1_listByPickup_57 : decode cX1_listByPickup 57 = .ok (.getfield 22, 3) := by decide +kernel
theorem dX1_listByPickup_60 : decode cX1_listByPickup 60 = .ok (.iload 5, 2) := by decide +kernel
theorem dX1_listByPickup_62 : decode cX1_listByPickup 62 = .ok (.iaload, 1) := by decide +kernel
theorem dX1_listByPickup_63 : decode cX1_listByPickup 63 = .ok (.if_icmp .le 19, 3) := by decide +kernel
theorem dX1_listByPickup_66 : decode cX1_listByPickup 66 = .ok (.aload_n 3, 1) := by decide +kernel
theorem dX1_listByPickup_67 : decode cX1_listByPickup 67 = .ok (.iload 6, 2) := by decide +kernel
theorem dX1_listByPickup_69 : decode cX1_listByPickup 69 = .ok (.aload_n 3, 1) := by decide +kernel
theorem dX1_listByPickup_70 : decode cX1_listByPickup 70 = .ok (.iload 6, 2) := by decide +kernel
theorem dX1_listByPickup_72 : decode cX1_listByPickup 72 = .ok (.iconst 1, 1) := by decide +kernel
theorem dX1_listByPickup_73 : decode cX1_listByPickup 73 = .ok (.isub, 1) := by decide +kernel
theorem dX1_listByPickup_74 : decode cX1_listByPickup 74 = .ok (.iaload, 1) := by decide +kernel
theorem dX1_listByPickup_75 : decode cX1_listByPickup 75 = .ok (.iastore, 1) := by decide +kernel
theorem dX1_listByPickup_76 : decode cX1_listByPickup 76 = .ok (.iinc 6 (-1), 3) := by decide +kernel
theorem dX1_listByPickup_79 : decode cX1_listByPickup 79 = .ok (.goto (-39), 3) := by decide +kernel
theorem dX1_listByPickup_82 : decode cX1_listByPickup 82 = .ok (.aload_n 3, 1) := by decide +kernel
theorem dX1_listByPickup_83 : decode cX1_listByPickup 83 = .ok (.iload 6, 2) := by decide +kernel
theorem dX1_listByPickup_85 : decode cX1_listByPickup 85 = .ok (.iload 5, 2) := by decide +kernel
theorem dX1_listByPickup_87 : decode cX1_listByPickup 87 = .ok (.iastore, 1) := by decide +kernel
theorem dX1_listByPickup_88 : decode cX1_listByPickup 88 = .ok (.iinc 4 1, 3) := by decide +kernel
theorem dX1_listByPickup_91 : decode cX1_listByPickup 91 = .ok (.iinc 5 1, 3) := by decide +kernel
theorem dX1_listByPickup_94 : decode cX1_listByPickup 94 = .ok (.goto (-88), 3) := by decide +kernel
theorem dX1_listByPickup_97 : decode cX1_listByPickup 97 = .ok (.iload 4, 2) := by decide +kernel
theorem dX1_listByPickup_99 : decode cX1_listByPickup 99 = .ok (.ireturn, 1) := by decide +kernel
theorem dX1_chooseBay_0 : decode cX1_chooseBay 0 = .ok (.iconst (-1), 1) := by decide +kernel
theorem dX1_chooseBay_1 : decode cX1_chooseBay 1 = .ok (.istore 4, 2) := by decide +kernel
theorem dX1_chooseBay_3 : decode cX1_chooseBay 3 = .ok (.iconst 0, 1) := by decide +kernel
theorem dX1_chooseBay_4 : decode cX1_chooseBay 4 = .ok (.istore 5, 2) := by decide +kernel
theorem dX1_chooseBay_6 : decode cX1_chooseBay 6 = .ok (.iconst 0, 1) := by decide +kernel
theorem dX1_chooseBay_7 : decode cX1_chooseBay 7 = .ok (.istore 6, 2) := by decide +kernel
theorem dX1_chooseBay_9 : decode cX1_chooseBay 9 = .ok (.iload 6, 2) := by decide +kernel
theorem dX1_chooseBay_11 : decode cX1_chooseBay 11 = .ok (.bipush 60, 2) := by decide +kernel
theorem dX1_chooseBay_13 : decode cX1_chooseBay 13 = .ok (.if_icmp .ge 114, 3) := by decide +kernel
theorem dX1_chooseBay_16 : decode cX1_chooseBay 16 = .ok (.aload_n 0, 1) := by decide +kernel
theorem dX1_chooseBay_17 : decode cX1_chooseBay 17 = .ok (.getfield 9, 3) := by decide +kernel
theorem dX1_chooseBay_20 : decode cX1_chooseBay 20 = .ok (.iload 6, 2) := by decide +kernel
theorem dX1_chooseBay_22 : decode cX1_chooseBay 22 = .ok (.baload, 1) := by decide +kernel
theorem dX1_chooseBay_23 : decode cX1_chooseBay 23 = .ok (.ifCond .ne 98, 3) := by decide +kernel
theorem dX1_chooseBay_26 : decode cX1_chooseBay 26 = .ok (.aload_n 0, 1) := by decide +kernel
theorem dX1_chooseBay_27 : decode cX1_chooseBay 27 = .ok (.getfield 15, 3) := by decide +kernel
theorem dX1_chooseBay_30 : decode cX1_chooseBay 30 = .ok (.iload 6, 2) := by decide +kernel
theorem dX1_chooseBay_32 : decode cX1_chooseBay 32 = .ok (.iaload, 1) := by decide +kernel
theorem dX1_chooseBay_33 : decode cX1_chooseBay 33 = .ok (.iconst (-1), 1) := by decide +kernel
theorem dX1_chooseBay_34 : decode cX1_chooseBay 34 = .ok (.if_icmp .ne 87, 3) := by decide +kernel
theorem dX1_chooseBay_37 : decode cX1_chooseBay 37 = .ok (.aload_n 0, 1) := by decide +kernel
theorem dX1_chooseBay_38 : decode cX1_chooseBay 38 = .ok (.iload 6, 2) := by decide +kernel
theorem dX1_chooseBay_40 : decode cX1_chooseBay 40 = .ok (.invokevirtual 76, 3) := by decide +kernel
theorem dX1_chooseBay_43 : decode cX1_chooseBay 43 = .ok (.iconst (-1), 1) := by decide +kernel
theorem dX1_chooseBay_44 : decode cX1_chooseBay 44 = .ok (.if_icmp .ne 77, 3) := by decide +kernel
theorem dX1_chooseBay_47 : decode cX1_chooseBay 47 = .ok (.iload_n 1, 1) := by decide +kernel
theorem dX1_chooseBay_48 : decode cX1_chooseBay 48 = .ok (.iconst 1, 1) := by decide +kernel
theorem dX1_chooseBay_49 : decode cX1_chooseBay 49 = .ok (.if_icmp .ne 14, 3) := by decide +kernel
theorem dX1_chooseBay_52 : decode cX1_chooseBay 52 = .ok (.iload 6, 2) := by decide +kernel
theorem dX1_chooseBay_54 : decode cX1_chooseBay 54 = .ok (.invokestatic 86, 3) := by decide +kernel
theorem dX1_chooseBay_57 : decode cX1_chooseBay 57 = .ok (.ifCond .ne 6, 3) := by decide +kernel
theorem dX1_chooseBay_60 : decode cX1_chooseBay 60 = .ok (.goto 61, 3) := by decide +kernel
theorem dX1_chooseBay_63 : decode cX1_chooseBay 63 = .ok (.iload_n 3, 1) := by decide +kernel
theorem dX1_chooseBay_64 : decode cX1_chooseBay 64 = .ok (.iconst (-1), 1) := by decide +kernel
theorem dX1_chooseBay_65 : decode cX1_chooseBay 65 = .ok (.if_icmp .ne 11, 3) := by decide +kernel
theorem dX1_chooseBay_68 : decode cX1_chooseBay 68 = .ok (.iload 6, 2) := by decide +kernel
theorem dX1_chooseBay_70 : decode cX1_chooseBay 70 = .ok (.invokestatic 89, 3) := by decide +kernel
theorem dX1_chooseBay_73 : decode cX1_chooseBay 73 = .ok (.goto 9, 3) := by decide +kernel
theorem dX1_chooseBay_76 : decode cX1_chooseBay 76 = .ok (.iload_n 3, 1) := by decide +kernel
theorem dX1_chooseBay_77 : decode cX1_chooseBay 77 = .ok (.iload 6, 2) := by decide +kernel
theorem dX1_chooseBay_79 : decode cX1_chooseBay 79 = .ok (.invokestatic 92, 3) := by decide +kernel
theorem dX1_chooseBay_82 : decode cX1_chooseBay 82 = .ok (.istore 7, 2) := by decide +kernel
theorem dX1_chooseBay_84 : decode cX1_chooseBay 84 = .ok (.aload_n 0, 1) := by decide +kernel
theorem dX1_chooseBay_85 : decode cX1_chooseBay 85 = .ok (.iload 6, 2) := by decide +kernel
theorem dX1_chooseBay_87 : decode cX1_chooseBay 87 = .ok (.iload_n 2, 1) := by decide +kernel
theorem dX1_chooseBay_88 : decode cX1_chooseBay 88 = .ok (.invokevirtual 96, 3) := by decide +kernel
theorem dX1_chooseBay_91 : decode cX1_chooseBay 91 = .ok (.ifCond .eq 9, 3) := by decide +kernel
theorem dX1_chooseBay_94 : decode cX1_chooseBay 94 = .ok (.iinc 7 1000, 6) := by decide +kernel
theorem dX1_chooseBay_100 : decode cX1_chooseBay 100 = .ok (.iload 4, 2) := by decide +kernel
theorem dX1_chooseBay_102 : decode cX1_chooseBay 102 = .ok (.iconst (-1), 1) := by decide +kernel
theorem dX1_chooseBay_103 : decode cX1_chooseBay 103 = .ok (.if_icmp .eq 10, 3) := by decide +kernel
theorem dX1_chooseBay_106 : decode cX1_chooseBay 106 = .ok (.iload 7, 2) := by decide +kernel
theorem dX1_chooseBay_108 : decode cX1_chooseBay 108 = .ok (.iload 5, 2) := by decide +kernel
theorem dX1_chooseBay_110 : decode cX1_chooseBay 110 = .ok (.if_icmp .ge 11, 3) := by decide +kernel
theorem dX1_chooseBay_113 : decode cX1_chooseBay 113 = .ok (.iload 6, 2) := by decide +kernel
theorem dX1_chooseBay_115 : decode cX1_chooseBay 115 = .ok (.istore 4, 2) := by decide +kernel
theorem dX1_chooseBay_117 : decode cX1_chooseBay 117 = .ok (.iload 7, 2) := by decide +kernel
theorem dX1_chooseBay_119 : decode cX1_chooseBay 119 = .ok (.istore 5, 2) := by decide +kernel
theorem dX1_chooseBay_121 : decode cX1_chooseBay 121 = .ok (.iinc 6 1, 3) := by decide +kernel
theorem dX1_chooseBay_124 : decode cX1_chooseBay 124 = .ok (.goto (-115), 3) := by decide +kernel
theorem dX1_chooseBay_127 : decode cX1_chooseBay 127 = .ok (.iload 4, 2) := by decide +kernel
theorem dX1_chooseBay_129 : decode cX1_chooseBay 129 = .ok (.ireturn, 1) := by decide +kernel
theorem dX1_isBad_0 : decode cX1_isBad 0 = .ok (.iload_n 1, 1) := by decide +kernel
theorem dX1_isBad_1 : decode cX1_isBad 1 = .ok (.invokestatic 80, 3) := by decide +kernel
theorem dX1_isBad_4 : decode cX1_isBad 4 = .ok (.iconst 1, 1) := by decide +kernel
theorem dX1_isBad_5 : decode cX1_isBad 5 = .ok (.if_icmp .eq 15, 3) := by decide +kernel
theorem dX1_isBad_8 : decode cX1_isBad 8 = .ok (.aload_n 0, 1) := by decide +kernel
theorem dX1_isBad_9 : decode cX1_isBad 9 = .ok (.getfield 15, 3) := by decide +kernel
theorem dX1_isBad_12 : decode cX1_isBad 12 = .ok (.iload_n 1, 1) := by decide +kernel
theorem dX1_isBad_13 : decode cX1_isBad 13 = .ok (.iconst 1, 1) := by decide +kernel
theorem dX1_isBad_14 : decode cX1_isBad 14 = .ok (.iadd, 1) := by decide +kernel
theorem dX1_isBad_15 : decode cX1_isBad 15 = .ok (.iaload, 1) := by decide +kernel
theorem dX1_isBad_16 : decode cX1_isBad 16 = .ok (.iconst (-1), 1) := by decide +kernel
theorem dX1_isBad_17 : decode cX1_isBad 17 = .ok (.if_icmp .ne 5, 3) := by decide +kernel
theorem dX1_isBad_20 : decode cX1_isBad 20 = .ok (.iconst 0, 1) := by decide +kernel
theorem dX1_isBad_21 : decode cX1_isBad 21 = .ok (.ireturn, 1) := by decide +kernel
theorem dX1_isBad_22 : decode cX1_isBad 22 = .ok (.aload_n 0, 1) := by decide +kernel
theorem dX1_isBad_23 : decode cX1_isBad 23 = .ok (.getfield 22, 3) := by decide +kernel
theorem dX1_isBad_26 : decode cX1_isBad 26 = .ok (.aload_n 0, 1) := by decide +kernel
theorem dX1_isBad_27 : decode cX1_isBad 27 = .ok (.getfield 15, 3) := by decide +kernel
theorem dX1_isBad_30 : decode cX1_isBad 30 = .ok (.iload_n 1, 1) := by decide +kernel
theorem dX1_isBad_31 : decode cX1_isBad 31 = .ok (.iconst 1, 1) := by decide +kernel
theorem dX1_isBad_32 : decode cX1_isBad 32 = .ok (.iadd, 1) := by decide +kernel
theorem dX1_isBad_33 : decode cX1_isBad 33 = .ok (.iaload, 1) := by decide +kernel
theorem dX1_isBad_34 : decode cX1_isBad 34 = .ok (.iaload, 1) := by decide +kernel
theorem dX1_isBad_35 : decode cX1_isBad 35 = .ok (.iload_n 2, 1) := by decide +kernel
theorem dX1_isBad_36 : decode cX1_isBad 36 = .ok (.if_icmp .ge 7, 3) := by decide +kernel
theorem dX1_isBad_39 : decode cX1_isBad 39 = .ok (.iconst 1, 1) := by decide +kernel
theorem dX1_isBad_40 : decode cX1_isBad 40 = .ok (.goto 4, 3) := by decide +kernel
theorem dX1_isBad_43 : decode cX1_isBad 43 = .ok (.iconst 0, 1) := by decide +kernel
theorem dX1_isBad_44 : decode cX1_isBad 44 = .ok (.ireturn, 1) := by decide +kernel
theorem dX1_bayToFlee_0 : decode cX1_bayToFlee 0 = .ok (.aload_n 0, 1) := by decide +kernel
theorem dX1_bayToFlee_1 : decode cX1_bayToFlee 1 = .ok (.aload_n 0, 1) := by decide +kernel
theorem dX1_bayToFlee_2 : decode cX1_bayToFlee 2 = .ok (.getfield 19, 3) := by decide +kernel
theorem dX1_bayToFlee_5 : decode cX1_bayToFlee 5 = .ok (.iload_n 1, 1) := by decide +kernel
theorem dX1_bayToFlee_6 : decode cX1_bayToFlee 6 = .ok (.iaload, 1) := by decide +kernel
theorem dX1_bayToFlee_7 : decode cX1_bayToFlee 7 = .ok (.aload_n 0, 1) := by decide +kernel
theorem dX1_bayToFlee_8 : decode cX1_bayToFlee 8 = .ok (.getfield 22, 3) := by decide +kernel
theorem dX1_bayToFlee_11 : decode cX1_bayToFlee 11 = .ok (.iload_n 1, 1) := by decide +kernel
theorem dX1_bayToFlee_12 : decode cX1_bayToFlee 12 = .ok (.iaload, 1) := by decide +kernel
theorem dX1_bayToFlee_13 : decode cX1_bayToFlee 13 = .ok (.aload_n 0, 1) := by decide +kernel
theorem dX1_bayToFlee_14 : decode cX1_bayToFlee 14 = .ok (.getfield 25, 3) := by decide +kernel
theorem dX1_bayToFlee_17 : decode cX1_bayToFlee 17 = .ok (.iload_n 1, 1) := by decide +kernel
theorem dX1_bayToFlee_18 : decode cX1_bayToFlee 18 = .ok (.iaload, 1) := by decide +kernel
theorem dX1_bayToFlee_19 : decode cX1_bayToFlee 19 = .ok (.invokevirtual 100, 3) := by decide +kernel
theorem dX1_bayToFlee_22 : decode cX1_bayToFlee 22 = .ok (.ireturn, 1) := by decide +kernel
theorem dX1_letPass_0 : decode cX1_letPass 0 = .ok (.aload_n 0, 1) := by decide +kernel
theorem dX1_letPass_1 : decode cX1_letPass 1 = .ok (.getfield 37, 3) := by decide +kernel
theorem dX1_letPass_4 : decode cX1_letPass 4 = .ok (.getfield 61, 3) := by decide +kernel
theorem dX1_letPass_7 : decode cX1_letPass 7 = .ok (.iload_n 1, 1) := by decide +kernel
theorem dX1_letPass_8 : decode cX1_letPass 8 = .ok (.iadd, 1) := by decide +kernel
theorem dX1_letPass_9 : decode cX1_letPass 9 = .ok (.sipush 9999, 3) := by decide +kernel
theorem dX1_letPass_12 : decode cX1_letPass 12 = .ok (.if_icmp .le 5, 3) := by decide +kernel
theorem dX1_letPass_15 : decode cX1_letPass 15 = .ok (.iconst 0, 1) := by decide +kernel
theorem dX1_letPass_16 : decode cX1_letPass 16 = .ok (.ireturn, 1) := by decide +kernel
theorem dX1_letPass_17 : decode cX1_letPass 17 = .ok (.aload_n 0, 1) := by decide +kernel
theorem dX1_letPass_18 : decode cX1_letPass 18 = .ok (.getfield 37, 3) := by decide +kernel
theorem dX1_letPass_21 : decode cX1_letPass 21 = .ok (.dup, 1) := by decide +kernel
theorem dX1_letPass_22 : decode cX1_letPass 22 = .ok (.getfield 61, 3) := by decide +kernel
theorem dX1_letPass_25 : decode cX1_letPass 25 = .ok (.iload_n 1, 1) := by decide +kernel
theorem dX1_letPass_26 : decode cX1_letPass 26 = .ok (.iadd, 1) := by decide +kernel
theorem dX1_letPass_27 : decode cX1_letPass 27 = .ok (.putfield 61, 3) := by decide +kernel
theorem dX1_letPass_30 : decode cX1_letPass 30 = .ok (.iconst 1, 1) := by decide +kernel
theorem dX1_letPass_31 : decode cX1_letPass 31 = .ok (.ireturn, 1) := by decide +kernel
theorem dX1_changeClosed_0 : decode cX1_changeClosed 0 = .ok (.aload_n 0, 1) := by decide +kernel
theorem dX1_changeClosed_1 : decode cX1_changeClosed 1 = .ok (.getfield 9, 3) := by decide +kernel
theorem dX1_changeClosed_4 : decode cX1_changeClosed 4 = .ok (.iload_n 1, 1) := by decide +kernel
theorem dX1_changeClosed_5 : decode cX1_changeClosed 5 = .ok (.baload, 1) := by decide +kernel
theorem dX1_changeClosed_6 : decode cX1_changeClosed 6 = .ok (.istore_n 3, 1) := by decide +kernel
theorem dX1_changeClosed_7 : decode cX1_changeClosed 7 = .ok (.aload_n 0, 1) := by decide +kernel
theorem dX1_changeClosed_8 : decode cX1_changeClosed 8 = .ok (.getfield 9, 3) := by decide +kernel
theorem dX1_changeClosed_11 : decode cX1_changeClosed 11 = .ok (.iload_n 1, 1) := by decide +kernel
theorem dX1_changeClosed_12 : decode cX1_changeClosed 12 = .ok (.iload_n 2, 1) := by decide +kernel
theorem dX1_changeClosed_13 : decode cX1_changeClosed 13 = .ok (.bastore, 1) := by decide +kernel
theorem dX1_changeClosed_14 : decode cX1_changeClosed 14 = .ok (.iload_n 3, 1) := by decide +kernel
theorem dX1_changeClosed_15 : decode cX1_changeClosed 15 = .ok (.ireturn, 1) := by decide +kernel
theorem dX1_changePickup_0 : decode cX1_changePickup 0 = .ok (.aload_n 0, 1) := by decide +kernel
theorem dX1_changePickup_1 : decode cX1_changePickup 1 = .ok (.getfield 22, 3) := by decide +kernel
theorem dX1_changePickup_4 : decode cX1_changePickup 4 = .ok (.iload_n 1, 1) := by decide +kernel
theorem dX1_changePickup_5 : decode cX1_changePickup 5 = .ok (.iaload, 1) := by decide +kernel
theorem dX1_changePickup_6 : decode cX1_changePickup 6 = .ok (.istore_n 3, 1) := by decide +kernel
theorem dX1_changePickup_7 : decode cX1_changePickup 7 = .ok (.aload_n 0, 1) := by decide +kernel
theorem dX1_changePickup_8 : decode cX1_changePickup 8 = .ok (.getfield 22, 3) := by decide +kernel
theorem dX1_changePickup_11 : decode cX1_changePickup 11 = .ok (.iload_n 1, 1) := by decide +kernel
theorem dX1_changePickup_12 : decode cX1_changePickup 12 = .ok (.iload_n 2, 1) := by decide +kernel
theorem dX1_changePickup_13 : decode cX1_changePickup 13 = .ok (.iastore, 1) := by decide +kernel
theorem dX1_changePickup_14 : decode cX1_changePickup 14 = .ok (.iload_n 3, 1) := by decide +kernel
theorem dX1_changePickup_15 : decode cX1_changePickup 15 = .ok (.ireturn, 1) := by decide +kernel
theorem dX1_takeIn_0 : decode cX1_takeIn 0 = .ok (.aload_n 0, 1) := by decide +kernel
theorem dX1_takeIn_1 : decode cX1_takeIn 1 = .ok (.iload_n 1, 1) := by decide +kernel
theorem dX1_takeIn_2 : decode cX1_takeIn 2 = .ok (.iload_n 2, 1) := by decide +kernel
theorem dX1_takeIn_3 : decode cX1_takeIn 3 = .ok (.iconst (-1), 1) := by decide +kernel
theorem dX1_takeIn_4 : decode cX1_takeIn 4 = .ok (.invokevirtual 100, 3) := by decide +kernel
theorem dX1_takeIn_7 : decode cX1_takeIn 7 = .ok (.istore_n 3, 1) := by decide +kernel
theorem dX1_takeIn_8 : decode cX1_takeIn 8 = .ok (.iload_n 3, 1) := by decide +kernel
theorem dX1_takeIn_9 : decode cX1_takeIn 9 = .ok (.iconst (-1), 1) := by decide +kernel
theorem dX1_takeIn_10 : decode cX1_takeIn 10 = .ok (.if_icmp .eq 10, 3) := by decide +kernel
theorem dX1_takeIn_13 : decode cX1_takeIn 13 = .ok (.aload_n 0, 1) := by decide +kernel
theorem dX1_takeIn_14 : decode cX1_takeIn 14 = .ok (.invokevirtual 104, 3) := by decide +kernel
theorem dX1_takeIn_17 : decode cX1_takeIn 17 = .ok (.ifCond .eq 5, 3) := by decide +kernel
theorem dX1_takeIn_20 : decode cX1_takeIn 20 = .ok (.iconst (-1), 1) := by decide +kernel
theorem dX1_takeIn_21 : decode cX1_takeIn 21 = .ok (.ireturn, 1) := by decide +kernel
theorem dX1_takeIn_22 : decode cX1_takeIn 22 = .ok (.aload_n 0, 1) := by decide +kernel
theorem dX1_takeIn_23 : decode cX1_takeIn 23 = .ok (.getfield 51, 3) := by decide +kernel
theorem dX1_takeIn_26 : decode cX1_takeIn 26 = .ok (.istore 4, 2) := by decide +kernel
theorem dX1_takeIn_28 : decode cX1_takeIn 28 = .ok (.aload_n 0, 1) := by decide +kernel
theorem dX1_takeIn_29 : decode cX1_takeIn 29 = .ok (.getfield 19, 3) := by decide +kernel
theorem dX1_takeIn_32 : decode cX1_takeIn 32 = .ok (.iload 4, 2) := by decide +kernel
theorem dX1_takeIn_34 : decode cX1_takeIn 34 = .ok (.iload_n 1, 1) := by decide +kernel
theorem dX1_takeIn_35 : decode cX1_takeIn 35 = .ok (.iastore, 1) := by decide +kernel
theorem dX1_takeIn_36 : decode cX1_takeIn 36 = .ok (.aload_n 0, 1) := by decide +kernel
theorem dX1_takeIn_37 : decode cX1_takeIn 37 = .ok (.getfield 22, 3) := by decide +kernel
theorem dX1_takeIn_40 : decode cX1_takeIn 40 = .ok (.iload 4, 2) := by decide +kernel
theorem dX1_takeIn_42 : decode cX1_takeIn 42 = .ok (.iload_n 2, 1) := by decide +kernel
theorem dX1_takeIn_43 : decode cX1_takeIn 43 = .ok (.iastore, 1) := by decide +kernel
theorem dX1_takeIn_44 : decode cX1_takeIn 44 = .ok (.aload_n 0, 1) := by decide +kernel
theorem dX1_takeIn_45 : decode cX1_takeIn 45 = .ok (.getfield 25, 3) := by decide +kernel
theorem dX1_takeIn_48 : decode cX1_takeIn 48 = .ok (.iload 4, 2) := by decide +kernel
theorem dX1_takeIn_50 : decode cX1_takeIn 50 = .ok (.iload_n 3, 1) := by decide +kernel
theorem dX1_takeIn_51 : decode cX1_takeIn 51 = .ok (.iastore, 1) := by decide +kernel
theorem dX1_takeIn_52 : decode cX1_takeIn 52 = .ok (.aload_n 0, 1) := by decide +kernel
theorem dX1_takeIn_53 : decode cX1_takeIn 53 = .ok (.getfield 28, 3) := by decide +kernel
theorem dX1_takeIn_56 : decode cX1_takeIn 56 = .ok (.iload 4, 2) := by decide +kernel
theorem dX1_takeIn_58 : decode cX1_takeIn 58 = .ok (.iconst 1, 1) := by decide +kernel
theorem dX1_takeIn_59 : decode cX1_takeIn 59 = .ok (.iastore, 1) := by decide +kernel
theorem dX1_takeIn_60 : decode cX1_takeIn 60 = .ok (.aload_n 0, 1) := by decide +kernel
theorem dX1_takeIn_61 : decode cX1_takeIn 61 = .ok (.getfield 15, 3) := by decide +kernel
theorem dX1_takeIn_64 : decode cX1_takeIn 64 = .ok (.iload_n 3, 1) := by decide +kernel
theorem dX1_takeIn_65 : decode cX1_takeIn 65 = .ok (.iload 4, 2) := by decide +kernel
theorem dX1_takeIn_67 : decode cX1_takeIn 67 = .ok (.iastore, 1) := by decide +kernel
theorem dX1_takeIn_68 : decode cX1_takeIn 68 = .ok (.aload_n 0, 1) := by decide +kernel
theorem dX1_takeIn_69 : decode cX1_takeIn 69 = .ok (.dup, 1) := by decide +kernel
theorem dX1_takeIn_70 : decode cX1_takeIn 70 = .ok (.getfield 51, 3) := by decide +kernel
theorem dX1_takeIn_73 : decode cX1_takeIn 73 = .ok (.iconst 1, 1) := by decide +kernel
theorem dX1_takeIn_74 : decode cX1_takeIn 74 = .ok (.iadd, 1) := by decide +kernel
theorem dX1_takeIn_75 : decode cX1_takeIn 75 = .ok (.putfield 51, 3) := by decide +kernel
theorem dX1_takeIn_78 : decode cX1_takeIn 78 = .ok (.aload_n 0, 1) := by decide +kernel
theorem dX1_takeIn_79 : decode cX1_takeIn 79 = .ok (.dup, 1) := by decide +kernel
theorem dX1_takeIn_80 : decode cX1_takeIn 80 = .ok (.getfield 55, 3) := by decide +kernel
theorem dX1_takeIn_83 : decode cX1_takeIn 83 = .ok (.iconst 1, 1) := by decide +kernel
theorem dX1_takeIn_84 : decode cX1_takeIn 84 = .ok (.iadd, 1) := by decide +kernel
theorem dX1_takeIn_85 : decode cX1_takeIn 85 = .ok (.putfield 55, 3) := by decide +kernel
theorem dX1_takeIn_88 : decode cX1_takeIn 88 = .ok (.aload_n 0, 1) := by decide +kernel
theorem dX1_takeIn_89 : decode cX1_takeIn 89 = .ok (.getfield 37, 3) := by decide +kernel
theorem dX1_takeIn_92 : decode cX1_takeIn 92 = .ok (.iload 4, 2) := by decide +kernel
theorem dX1_takeIn_94 : decode cX1_takeIn 94 = .ok (.iload_n 3, 1) := by decide +kernel
theorem dX1_takeIn_95 : decode cX1_takeIn 95 = .ok (.invokevirtual 108, 3) := by decide +kernel
theorem dX1_takeIn_98 : decode cX1_takeIn 98 = .ok (.iload_n 3, 1) := by decide +kernel
theorem dX1_takeIn_99 : decode cX1_takeIn 99 = .ok (.ireturn, 1) := by decide +kernel
theorem dX1_fetch_0 : decode cX1_fetch 0 = .ok (.aload_n 0, 1) := by decide +kernel
theorem dX1_fetch_1 : decode cX1_fetch 1 = .ok (.iload_n 1, 1) := by decide +kernel
theorem dX1_fetch_2 : decode cX1_fetch 2 = .ok (.invokevirtual 72, 3) := by decide +kernel
theorem dX1_fetch_5 : decode cX1_fetch 5 = .ok (.ifCond .ne 5, 3) := by decide +kernel
theorem dX1_fetch_8 : decode cX1_fetch 8 = .ok (.iconst 0, 1) := by decide +kernel
theorem dX1_fetch_9 : decode cX1_fetch 9 = .ok (.ireturn, 1) := by decide +kernel
theorem dX1_fetch_10 : decode cX1_fetch 10 = .ok (.aload_n 0, 1) := by decide +kernel
theorem dX1_fetch_11 : decode cX1_fetch 11 = .ok (.iload_n 1, 1) := by decide +kernel
theorem dX1_fetch_12 : decode cX1_fetch 12 = .ok (.invokevirtual 83, 3) := by decide +kernel
theorem dX1_fetch_15 : decode cX1_fetch 15 = .ok (.istore_n 2, 1) := by decide +kernel
theorem dX1_fetch_16 : decode cX1_fetch 16 = .ok (.iload_n 2, 1) := by decide +kernel
theorem dX1_fetch_17 : decode cX1_fetch 17 = .ok (.iconst (-1), 1) := by decide +kernel
theorem dX1_fetch_18 : decode cX1_fetch 18 = .ok (.if_icmp .eq 22, 3) := by decide +kernel
theorem dX1_fetch_21 : decode cX1_fetch 21 = .ok (.aload_n 0, 1) := by decide +kernel
theorem dX1_fetch_22 : decode cX1_fetch 22 = .ok (.iload_n 2, 1) := by decide +kernel
theorem dX1_fetch_23 : decode cX1_fetch 23 = .ok (.invokevirtual 112, 3) := by decide +kernel
theorem dX1_fetch_26 : decode cX1_fetch 26 = .ok (.istore_n 3, 1) := by decide +kernel
theorem dX1_fetch_27 : decode cX1_fetch 27 = .ok (.iload_n 3, 1) := by decide +kernel
theorem dX1_fetch_28 : decode cX1_fetch 28 = .ok (.iconst (-1), 1) := by decide +kernel
theorem dX1_fetch_29 : decode cX1_fetch 29 = .ok (.if_icmp .ne 5, 3) := by decide +kernel
theorem dX1_fetch_32 : decode cX1_fetch 32 = .ok (.iconst 0, 1) := by decide +kernel
theorem dX1_fetch_33 : decode cX1_fetch 33 = .ok (.ireturn, 1) := by decide +kernel
theorem dX1_fetch_34 : decode cX1_fetch 34 = .ok (.aload_n 0, 1) := by decide +kernel
theorem dX1_fetch_35 : decode cX1_fetch 35 = .ok (.iload_n 2, 1) := by decide +kernel
theorem dX1_fetch_36 : decode cX1_fetch 36 = .ok (.iload_n 3, 1) := by decide +kernel
theorem dX1_fetch_37 : decode cX1_fetch 37 = .ok (.invokevirtual 115, 3) := by decide +kernel
theorem dX1_fetch_40 : decode cX1_fetch 40 = .ok (.aload_n 0, 1) := by decide +kernel
theorem dX1_fetch_41 : decode cX1_fetch 41 = .ok (.iload_n 1, 1) := by decide +kernel
theorem dX1_fetch_42 : decode cX1_fetch 42 = .ok (.invokevirtual 118, 3) := by decide +kernel
theorem dX1_fetch_45 : decode cX1_fetch 45 = .ok (.iload_n 2, 1) := by decide +kernel
theorem dX1_fetch_46 : decode cX1_fetch 46 = .ok (.iconst (-1), 1) := by decide +kernel
theorem dX1_fetch_47 : decode cX1_fetch 47 = .ok (.if_icmp .ne 7, 3) := by decide +kernel
theorem dX1_fetch_50 : decode cX1_fetch 50 = .ok (.iconst 1, 1) := by decide +kernel
theorem dX1_fetch_51 : decode cX1_fetch 51 = .ok (.goto 4, 3) := by decide +kernel
theorem dX1_fetch_54 : decode cX1_fetch 54 = .ok (.iconst 2, 1) := by decide +kernel
theorem dX1_fetch_55 : decode cX1_fetch 55 = .ok (.ireturn, 1) := by decide +kernel
theorem dX1_takeOut_0 : decode cX1_takeOut 0 = .ok (.aload_n 0, 1) := by decide +kernel
theorem dX1_takeOut_1 : decode cX1_takeOut 1 = .ok (.getfield 25, 3) := by decide +kernel
theorem dX1_takeOut_4 : decode cX1_takeOut 4 = .ok (.iload_n 1, 1) := by decide +kernel
theorem dX1_takeOut_5 : decode cX1_takeOut 5 = .ok (.iaload, 1) := by decide +kernel
theorem dX1_takeOut_6 : decode cX1_takeOut 6 = .ok (.istore_n 2, 1) := by decide +kernel
theorem dX1_takeOut_7 : decode cX1_takeOut 7 = .ok (.aload_n 0, 1) := by decide +kernel
theorem dX1_takeOut_8 : decode cX1_takeOut 8 = .ok (.getfield 37, 3) := by decide +kernel
theorem dX1_takeOut_11 : decode cX1_takeOut 11 = .ok (.iload_n 1, 1) := by decide +kernel
theorem dX1_takeOut_12 : decode cX1_takeOut 12 = .ok (.iload_n 2, 1) := by decide +kernel
theorem dX1_takeOut_13 : decode cX1_takeOut 13 = .ok (.invokevirtual 122, 3) := by decide +kernel
theorem dX1_takeOut_16 : decode cX1_takeOut 16 = .ok (.aload_n 0, 1) := by decide +kernel
theorem dX1_takeOut_17 : decode cX1_takeOut 17 = .ok (.getfield 15, 3) := by decide +kernel
theorem dX1_takeOut_20 : decode cX1_takeOut 20 = .ok (.iload_n 2, 1) := by decide +kernel
theorem dX1_takeOut_21 : decode cX1_takeOut 21 = .ok (.iconst (-1), 1) := by decide +kernel
theorem dX1_takeOut_22 : decode cX1_takeOut 22 = .ok (.iastore, 1) := by decide +kernel
theorem dX1_takeOut_23 : decode cX1_takeOut 23 = .ok (.aload_n 0, 1) := by decide +kernel
theorem dX1_takeOut_24 : decode cX1_takeOut 24 = .ok (.getfield 25, 3) := by decide +kernel
theorem dX1_takeOut_27 : decode cX1_takeOut 27 = .ok (.iload_n 1, 1) := by decide +kernel
theorem dX1_takeOut_28 : decode cX1_takeOut 28 = .ok (.iconst (-1), 1) := by decide +kernel
theorem dX1_takeOut_29 : decode cX1_takeOut 29 = .ok (.iastore, 1) := by decide +kernel
theorem dX1_takeOut_30 : decode cX1_takeOut 30 = .ok (.aload_n 0, 1) := by decide +kernel
theorem dX1_takeOut_31 : decode cX1_takeOut 31 = .ok (.getfield 28, 3) := by decide +kernel
theorem dX1_takeOut_34 : decode cX1_takeOut 34 = .ok (.iload_n 1, 1) := by decide +kernel
theorem dX1_takeOut_35 : decode cX1_takeOut 35 = .ok (.dup2, 1) := by decide +kernel
theorem dX1_takeOut_36 : decode cX1_takeOut 36 = .ok (.iaload, 1) := by decide +kernel
theorem dX1_takeOut_37 : decode cX1_takeOut 37 = .ok (.iconst 1, 1) := by decide +kernel
theorem dX1_takeOut_38 : decode cX1_takeOut 38 = .ok (.iadd, 1) := by decide +kernel
theorem dX1_takeOut_39 : decode cX1_takeOut 39 = .ok (.iastore, 1) := by decide +kernel
theorem dX1_takeOut_40 : decode cX1_takeOut 40 = .ok (.aload_n 0, 1) := by decide +kernel
theorem dX1_takeOut_41 : decode cX1_takeOut 41 = .ok (.dup, 1) := by decide +kernel
theorem dX1_takeOut_42 : decode cX1_takeOut 42 = .ok (.getfield 55, 3) := by decide +kernel
theorem dX1_takeOut_45 : decode cX1_takeOut 45 = .ok (.iconst 1, 1) := by decide +kernel
theorem dX1_takeOut_46 : decode cX1_takeOut 46 = .ok (.isub, 1) := by decide +kernel
theorem dX1_takeOut_47 : decode cX1_takeOut 47 = .ok (.putfield 55, 3) := by decide +kernel
theorem dX1_takeOut_50 : decode cX1_takeOut 50 = .ok (.return_, 1) := by decide +kernel
theorem dX1_moveCar_0 : decode cX1_moveCar 0 = .ok (.aload_n 0, 1) := by decide +kernel
theorem dX1_moveCar_1 : decode cX1_moveCar 1 = .ok (.getfield 25, 3) := by decide +kernel
theorem dX1_moveCar_4 : decode cX1_moveCar 4 = .ok (.iload_n 1, 1) := by decide +kernel
theorem dX1_moveCar_5 : decode cX1_moveCar 5 = .ok (.iaload, 1) := by decide +kernel
theorem dX1_moveCar_6 : decode cX1_moveCar 6 = .ok (.istore_n 3, 1) := by decide +kernel
theorem dX1_moveCar_7 : decode cX1_moveCar 7 = .ok (.iload_n 3, 1) := by decide +kernel
theorem dX1_moveCar_8 : decode cX1_moveCar 8 = .ok (.invokestatic 125, 3) := by decide +kernel
theorem dX1_moveCar_11 : decode cX1_moveCar 11 = .ok (.iload_n 2, 1) := by decide +kernel
theorem dX1_moveCar_12 : decode cX1_moveCar 12 = .ok (.invokestatic 125, 3) := by decide +kernel
theorem dX1_moveCar_15 : decode cX1_moveCar 15 = .ok (.if_icmp .ne 16, 3) := by decide +kernel
theorem dX1_moveCar_18 : decode cX1_moveCar 18 = .ok (.aload_n 0, 1) := by decide +kernel
theorem dX1_moveCar_19 : decode cX1_moveCar 19 = .ok (.getfield 37, 3) := by decide +kernel
theorem dX1_moveCar_22 : decode cX1_moveCar 22 = .ok (.iload_n 1, 1) := by decide +kernel
theorem dX1_moveCar_23 : decode cX1_moveCar 23 = .ok (.iload_n 3, 1) := by decide +kernel
theorem dX1_moveCar_24 : decode cX1_moveCar 24 = .ok (.iload_n 2, 1) := by decide +kernel
theorem dX1_moveCar_25 : decode cX1_moveCar 25 = .ok (.invokevirtual 128, 3) := by decide +kernel
theorem dX1_moveCar_28 : decode cX1_moveCar 28 = .ok (.goto 13, 3) := by decide +kernel
theorem dX1_moveCar_31 : decode cX1_moveCar 31 = .ok (.aload_n 0, 1) := by decide +kernel
theorem dX1_moveCar_32 : decode cX1_moveCar 32 = .ok (.getfield 37, 3) := by decide +kernel
theorem dX1_moveCar_35 : decode cX1_moveCar 35 = .ok (.iload_n 1, 1) := by decide +kernel
theorem dX1_moveCar_36 : decode cX1_moveCar 36 = .ok (.iload_n 3, 1) := by decide +kernel
theorem dX1_moveCar_37 : decode cX1_moveCar 37 = .ok (.iload_n 2, 1) := by decide +kernel
theorem dX1_moveCar_38 : decode cX1_moveCar 38 = .ok (.invokevirtual 132, 3) := by decide +kernel
theorem dX1_moveCar_41 : decode cX1_moveCar 41 = .ok (.aload_n 0, 1) := by decide +kernel
theorem dX1_moveCar_42 : decode cX1_moveCar 42 = .ok (.getfield 15, 3) := by decide +kernel
theorem dX1_moveCar_45 : decode cX1_moveCar 45 = .ok (.iload_n 3, 1) := by decide +kernel
theorem dX1_moveCar_46 : decode cX1_moveCar 46 = .ok (.iconst (-1), 1) := by decide +kernel
theorem dX1_moveCar_47 : decode cX1_moveCar 47 = .ok (.iastore, 1) := by decide +kernel
theorem dX1_moveCar_48 : decode cX1_moveCar 48 = .ok (.aload_n 0, 1) := by decide +kernel
theorem dX1_moveCar_49 : decode cX1_moveCar 49 = .ok (.getfield 15, 3) := by decide +kernel
theorem dX1_moveCar_52 : decode cX1_moveCar 52 = .ok (.iload_n 2, 1) := by decide +kernel
theorem dX1_moveCar_53 : decode cX1_moveCar 53 = .ok (.iload_n 1, 1) := by decide +kernel
theorem dX1_moveCar_54 : decode cX1_moveCar 54 = .ok (.iastore, 1) := by decide +kernel
theorem dX1_moveCar_55 : decode cX1_moveCar 55 = .ok (.aload_n 0, 1) := by decide +kernel
theorem dX1_moveCar_56 : decode cX1_moveCar 56 = .ok (.getfield 25, 3) := by decide +kernel
theorem dX1_moveCar_59 : decode cX1_moveCar 59 = .ok (.iload_n 1, 1) := by decide +kernel
theorem dX1_moveCar_60 : decode cX1_moveCar 60 = .ok (.iload_n 2, 1) := by decide +kernel
theorem dX1_moveCar_61 : decode cX1_moveCar 61 = .ok (.iastore, 1) := by decide +kernel
theorem dX1_moveCar_62 : decode cX1_moveCar 62 = .ok (.aload_n 0, 1) := by decide +kernel
theorem dX1_moveCar_63 : decode cX1_moveCar 63 = .ok (.getfield 28, 3) := by decide +kernel
theorem dX1_moveCar_66 : decode cX1_moveCar 66 = .ok (.iload_n 1, 1) := by decide +kernel
theorem dX1_moveCar_67 : decode cX1_moveCar 67 = .ok (.dup2, 1) := by decide +kernel
theorem dX1_moveCar_68 : decode cX1_moveCar 68 = .ok (.iaload, 1) := by decide +kernel
theorem dX1_moveCar_69 : decode cX1_moveCar 69 = .ok (.iconst 1, 1) := by decide +kernel
theorem dX1_moveCar_70 : decode cX1_moveCar 70 = .ok (.iadd, 1) := by decide +kernel
theorem dX1_moveCar_71 : decode cX1_moveCar 71 = .ok (.iastore, 1) := by decide +kernel
theorem dX1_moveCar_72 : decode cX1_moveCar 72 = .ok (.aload_n 0, 1) := by decide +kernel
theorem dX1_moveCar_73 : decode cX1_moveCar 73 = .ok (.dup, 1) := by decide +kernel
theorem dX1_moveCar_74 : decode cX1_moveCar 74 = .ok (.getfield 58, 3) := by decide +kernel
theorem dX1_moveCar_77 : decode cX1_moveCar 77 = .ok (.iconst 1, 1) := by decide +kernel
theorem dX1_moveCar_78 : decode cX1_moveCar 78 = .ok (.iadd, 1) := by decide +kernel
theorem dX1_moveCar_79 : decode cX1_moveCar 79 = .ok (.putfield 58, 3) := by decide +kernel
theorem dX1_moveCar_82 : decode cX1_moveCar 82 = .ok (.return_, 1) := by decide +kernel
theorem dX1_tidyUp_0 : decode cX1_tidyUp 0 = .ok (.aload_n 0, 1) := by decide +kernel
theorem dX1_tidyUp_1 : decode cX1_tidyUp 1 = .ok (.getfield 58, 3) := by decide +kernel
theorem dX1_tidyUp_4 : decode cX1_tidyUp 4 = .ok (.istore_n 1, 1) := by decide +kernel
theorem dX1_tidyUp_5 : decode cX1_tidyUp 5 = .ok (.aload_n 0, 1) := by decide +kernel
theorem dX1_tidyUp_6 : decode cX1_tidyUp 6 = .ok (.aload_n 0, 1) := by decide +kernel
theorem dX1_tidyUp_7 : decode cX1_tidyUp 7 = .ok (.iconst 1, 1) := by decide +kernel
theorem dX1_tidyUp_8 : decode cX1_tidyUp 8 = .ok (.invokevirtual 135, 3) := by decide +kernel
theorem dX1_tidyUp_11 : decode cX1_tidyUp 11 = .ok (.aload_n 0, 1) := by decide +kernel
theorem dX1_tidyUp_12 : decode cX1_tidyUp 12 = .ok (.getfield 31, 3) := by decide +kernel
theorem dX1_tidyUp_15 : decode cX1_tidyUp 15 = .ok (.invokevirtual 139, 3) := by decide +kernel
theorem dX1_tidyUp_18 : decode cX1_tidyUp 18 = .ok (.istore_n 2, 1) := by decide +kernel
theorem dX1_tidyUp_19 : decode cX1_tidyUp 19 = .ok (.iconst 0, 1) := by decide +kernel
theorem dX1_tidyUp_20 : decode cX1_tidyUp 20 = .ok (.istore_n 3, 1) := by decide +kernel
theorem dX1_tidyUp_21 : decode cX1_tidyUp 21 = .ok (.iload_n 3, 1) := by decide +kernel
theorem dX1_tidyUp_22 : decode cX1_tidyUp 22 = .ok (.iload_n 2, 1) := by decide +kernel
theorem dX1_tidyUp_23 : decode cX1_tidyUp 23 = .ok (.if_icmp .ge 19, 3) := by decide +kernel
theorem dX1_tidyUp_26 : decode cX1_tidyUp 26 = .ok (.aload_n 0, 1) := by decide +kernel
theorem dX1_tidyUp_27 : decode cX1_tidyUp 27 = .ok (.aload_n 0, 1) := by decide +kernel
theorem dX1_tidyUp_28 : decode cX1_tidyUp 28 = .ok (.getfield 31, 3) := by decide +kernel
theorem dX1_tidyUp_31 : decode cX1_tidyUp 31 = .ok (.iload_n 3, 1) := by decide +kernel
theorem dX1_tidyUp_32 : decode cX1_tidyUp 32 = .ok (.iaload, 1) := by decide +kernel
theorem dX1_tidyUp_33 : decode cX1_tidyUp 33 = .ok (.invokevirtual 143, 3) := by decide +kernel
theorem dX1_tidyUp_36 : decode cX1_tidyUp 36 = .ok (.iinc 3 1, 3) := by decide +kernel
theorem dX1_tidyUp_39 : decode cX1_tidyUp 39 = .ok (.goto (-18), 3) := by decide +kernel
theorem dX1_tidyUp_42 : decode cX1_tidyUp 42 = .ok (.aload_n 0, 1) := by decide +kernel
theorem dX1_tidyUp_43 : decode cX1_tidyUp 43 = .ok (.getfield 58, 3) := by decide +kernel
theorem dX1_tidyUp_46 : decode cX1_tidyUp 46 = .ok (.iload_n 1, 1) := by decide +kernel
theorem dX1_tidyUp_47 : decode cX1_tidyUp 47 = .ok (.isub, 1) := by decide +kernel
theorem dX1_tidyUp_48 : decode cX1_tidyUp 48 = .ok (.ireturn, 1) := by decide +kernel
theorem dX1_freeFromLater_0 : decode cX1_freeFromLater 0 = .ok (.aload_n 0, 1) := by decide +kernel
theorem dX1_freeFromLater_1 : decode cX1_freeFromLater 1 = .ok (.iload_n 1, 1) := by decide +kernel
theorem dX1_freeFromLater_2 : decode cX1_freeFromLater 2 = .ok (.invokevirtual 83, 3) := by decide +kernel
theorem dX1_freeFromLater_5 : decode cX1_freeFromLater 5 = .ok (.istore_n 2, 1) := by decide +kernel
theorem dX1_freeFromLater_6 : decode cX1_freeFromLater 6 = .ok (.iload_n 2, 1) := by decide +kernel
theorem dX1_freeFromLater_7 : decode cX1_freeFromLater 7 = .ok (.iconst (-1), 1) := by decide +kernel
theorem dX1_freeFromLater_8 : decode cX1_freeFromLater 8 = .ok (.if_icmp .eq 18, 3) := by decide +kernel
theorem dX1_freeFromLater_11 : decode cX1_freeFromLater 11 = .ok (.aload_n 0, 1) := by decide +kernel
theorem dX1_freeFromLater_12 : decode cX1_freeFromLater 12 = .ok (.getfield 22, 3) := by decide +kernel
theorem dX1_freeFromLater_15 : decode cX1_freeFromLater 15 = .ok (.iload_n 1, 1) := by decide +kernel
theorem dX1_freeFromLater_16 : decode cX1_freeFromLater 16 = .ok (.iaload, 1) := by decide +kernel
theorem dX1_freeFromLater_17 : decode cX1_freeFromLater 17 = .ok (.aload_n 0, 1) := by decide +kernel
theorem dX1_freeFromLater_18 : decode cX1_freeFromLater 18 = .ok (.getfield 22, 3) := by decide +kernel
theorem dX1_freeFromLater_21 : decode cX1_freeFromLater 21 = .ok (.iload_n 2, 1) := by decide +kernel
theorem dX1_freeFromLater_22 : decode cX1_freeFromLater 22 = .ok (.iaload, 1) := by decide +kernel
theorem dX1_freeFromLater_23 : decode cX1_freeFromLater 23 = .ok (.if_icmp .lt 4, 3) := by decide +kernel
theorem dX1_freeFromLater_26 : decode cX1_freeFromLater 26 = .ok (.return_, 1) := by decide +kernel
theorem dX1_freeFromLater_27 : decode cX1_freeFromLater 27 = .ok (.aload_n 0, 1) := by decide +kernel
theorem dX1_freeFromLater_28 : decode cX1_freeFromLater 28 = .ok (.iload_n 2, 1) := by decide +kernel
theorem dX1_freeFromLater_29 : decode cX1_freeFromLater 29 = .ok (.invokevirtual 112, 3) := by decide +kernel
theorem dX1_freeFromLater_32 : decode cX1_freeFromLater 32 = .ok (.istore_n 3, 1) := by decide +kernel
theorem dX1_freeFromLater_33 : decode cX1_freeFromLater 33 = .ok (.iload_n 3, 1) := by decide +kernel
theorem dX1_freeFromLater_34 : decode cX1_freeFromLater 34 = .ok (.iconst (-1), 1) := by decide +kernel
theorem dX1_freeFromLater_35 : decode cX1_freeFromLater 35 = .ok (.if_icmp .eq 23, 3) := by decide +kernel
theorem dX1_freeFromLater_38 : decode cX1_freeFromLater 38 = .ok (.aload_n 0, 1) := by decide +kernel
theorem dX1_freeFromLater_39 : decode cX1_freeFromLater 39 = .ok (.iload_n 3, 1) := by decide +kernel
theorem dX1_freeFromLater_40 : decode cX1_freeFromLater 40 = .ok (.aload_n 0, 1) := by decide +kernel
theorem dX1_freeFromLater_41 : decode cX1_freeFromLater 41 = .ok (.getfield 22, 3) := by decide +kernel
theorem dX1_freeFromLater_44 : decode cX1_freeFromLater 44 = .ok (.iload_n 2, 1) := by decide +kernel
theorem dX1_freeFromLater_45 : decode cX1_freeFromLater 45 = .ok (.iaload, 1) := by decide +kernel
theorem dX1_freeFromLater_46 : decode cX1_freeFromLater 46 = .ok (.invokevirtual 96, 3) := by decide +kernel
theorem dX1_freeFromLater_49 : decode cX1_freeFromLater 49 = .ok (.ifCond .ne 9, 3) := by decide +kernel
theorem dX1_freeFromLater_52 : decode cX1_freeFromLater 52 = .ok (.aload_n 0, 1) := by decide +kernel
theorem dX1_freeFromLater_53 : decode cX1_freeFromLater 53 = .ok (.iload_n 2, 1) := by decide +kernel
theorem dX1_freeFromLater_54 : decode cX1_freeFromLater 54 = .ok (.iload_n 3, 1) := by decide +kernel
theorem dX1_freeFromLater_55 : decode cX1_freeFromLater 55 = .ok (.invokevirtual 115, 3) := by decide +kernel
theorem dX1_freeFromLater_58 : decode cX1_freeFromLater 58 = .ok (.return_, 1) := by decide +kernel
theorem dX2_init_0 : decode cX2_init 0 = .ok (.aload_n 0, 1) := by decide +kernel
theorem dX2_init_1 : decode cX2_init 1 = .ok (.invokespecial 3, 3) := by decide +kernel
theorem dX2_init_4 : decode cX2_init 4 = .ok (.aload_n 0, 1) := by decide +kernel
theorem dX2_init_5 : decode cX2_init 5 = .ok (.bipush 7, 2) := by decide +kernel
theorem dX2_init_7 : decode cX2_init 7 = .ok (.anewarray 11, 3) := by decide +kernel
theorem dX2_init_10 : decode cX2_init 10 = .ok (.putfield 13, 3) := by decide +kernel
theorem dX2_init_13 : decode cX2_init 13 = .ok (.iconst 0, 1) := by decide +kernel
theorem dX2_init_14 : decode cX2_init 14 = .ok (.istore_n 1, 1) := by decide +kernel
theorem dX2_init_15 : decode cX2_init 15 = .ok (.iload_n 1, 1) := by decide +kernel
theorem dX2_init_16 : decode cX2_init 16 = .ok (.bipush 7, 2) := by decide +kernel
theorem dX2_init_18 : decode cX2_init 18 = .ok (.if_icmp .ge 22, 3) := by decide +kernel
theorem dX2_init_21 : decode cX2_init 21 = .ok (.aload_n 0, 1) := by decide +kernel
theorem dX2_init_22 : decode cX2_init 22 = .ok (.getfield 13, 3) := by decide +kernel
theorem dX2_init_25 : decode cX2_init 25 = .ok (.iload_n 1, 1) := by decide +kernel
theorem dX2_init_26 : decode cX2_init 26 = .ok (.new 11, 3) := by decide +kernel
theorem dX2_init_29 : decode cX2_init 29 = .ok (.dup, 1) := by decide +kernel
theorem dX2_init_30 : decode cX2_init 30 = .ok (.invokespecial 17, 3) := by decide +kernel
theorem dX2_init_33 : decode cX2_init 33 = .ok (.aastore, 1) := by decide +kernel
theorem dX2_init_34 : decode cX2_init 34 = .ok (.iinc 1 1, 3) := by decide +kernel
theorem dX2_init_37 : decode cX2_init 37 = .ok (.goto (-22), 3) := by decide +kernel
theorem dX2_init_40 : decode cX2_init 40 = .ok (.return_, 1) := by decide +kernel
theorem dX2_count_0 : decode cX2_count 0 = .ok (.aload_n 0, 1) := by decide +kernel
theorem dX2_count_1 : decode cX2_count 1 = .ok (.getfield 18, 3) := by decide +kernel
theorem dX2_count_4 : decode cX2_count 4 = .ok (.ireturn, 1) := by decide +kernel
theorem dX2_draft_0 : decode cX2_draft 0 = .ok (.aload_n 0, 1) := by decide +kernel
theorem dX2_draft_1 : decode cX2_draft 1 = .ok (.getfield 13, 3) := by decide +kernel
theorem dX2_draft_4 : decode cX2_draft 4 = .ok (.aload_n 0, 1) := by decide +kernel
theorem dX2_draft_5 : decode cX2_draft 5 = .ok (.getfield 22, 3) := by decide +kernel
theorem dX2_draft_8 : decode cX2_draft 8 = .ok (.aaload, 1) := by decide +kernel
theorem dX2_draft_9 : decode cX2_draft 9 = .ok (.aload_n 1, 1) := by decide +kernel
theorem dX2_draft_10 : decode cX2_draft 10 = .ok (.invokevirtual 25, 3) := by decide +kernel
theorem dX2_draft_13 : decode cX2_draft 13 = .ok (.return_, 1) := by decide +kernel
theorem dX2_keepDraft_0 : decode cX2_keepDraft 0 = .ok (.aload_n 0, 1) := by decide +kernel
theorem dX2_keepDraft_1 : decode cX2_keepDraft 1 = .ok (.aload_n 0, 1) := by decide +kernel
theorem dX2_keepDraft_2 : decode cX2_keepDraft 2 = .ok (.getfield 22, 3) := by decide +kernel
theorem dX2_keepDraft_5 : decode cX2_keepDraft 5 = .ok (.iconst 1, 1) := by decide +kernel
theorem dX2_keepDraft_6 : decode cX2_keepDraft 6 = .ok (.iadd, 1) := by decide +kernel
theorem dX2_keepDraft_7 : decode cX2_keepDraft 7 = .ok (.bipush 7, 2) := by decide +kernel
theorem dX2_keepDraft_9 : decode cX2_keepDraft 9 = .ok (.irem, 1) := by decide +kernel
theorem dX2_keepDraft_10 : decode cX2_keepDraft 10 = .ok (.putfield 22, 3) := by decide +kernel
theorem dX2_keepDraft_13 : decode cX2_keepDraft 13 = .ok (.aload_n 0, 1) := by decide +kernel
theorem dX2_keepDraft_14 : decode cX2_keepDraft 14 = .ok (.aload_n 0, 1) := by decide +kernel
theorem dX2_keepDraft_15 : decode cX2_keepDraft 15 = .ok (.getfield 18, 3) := by decide +kernel
theorem dX2_keepDraft_18 : decode cX2_keepDraft 18 = .ok (.iconst 1, 1) := by decide +kernel
theorem dX2_keepDraft_19 : decode cX2_keepDraft 19 = .ok (.iadd, 1) := by decide +kernel
theorem dX2_keepDraft_20 : decode cX2_keepDraft 20 = .ok (.bipush 6, 2) := by decide +kernel
theorem dX2_keepDraft_22 : decode cX2_keepDraft 22 = .ok (.invokestatic 29, 3) := by decide +kernel
theorem dX2_keepDraft_25 : decode cX2_keepDraft 25 = .ok (.putfield 18, 3) := by decide +kernel
theorem dX2_keepDraft_28 : decode cX2_keepDraft 28 = .ok (.return_, 1) := by decide +kernel
theorem dX2_returnToDraft_0 : decode cX2_returnToDraft 0 = .ok (.aload_n 1, 1) := by decide +kernel
theorem dX2_returnToDraft_1 : decode cX2_returnToDraft 1 = .ok (.aload_n 0, 1) := by decide +kernel
theorem dX2_returnToDraft_2 : decode cX2_returnToDraft 2 = .ok (.getfield 13, 3) := by decide +kernel
theorem dX2_returnToDraft_5 : decode cX2_returnToDraft 5 = .ok (.aload_n 0, 1) := by decide +kernel
theorem dX2_returnToDraft_6 : decode cX2_returnToDraft 6 = .ok (.getfield 22, 3) := by decide +kernel
theorem dX2_returnToDraft_9 : decode cX2_returnToDraft 9 = .ok (.aaload, 1) := by decide +kernel
theorem dX2_returnToDraft_10 : decode cX2_returnToDraft 10 = .ok (.invokevirtual 25, 3) := by decide +kernel
theorem dX2_returnToDraft_13 : decode cX2_returnToDraft 13 = .ok (.return_, 1) := by decide +kernel
theorem dX2_takeBack_0 : decode cX2_takeBack 0 = .ok (.aload_n 0, 1) := by decide +kernel
theorem dX2_takeBack_1 : decode cX2_takeBack 1 = .ok (.aload_n 0, 1) := by decide +kernel
theorem dX2_takeBack_2 : decode cX2_takeBack 2 = .ok (.getfield 22, 3) := by decide +kernel
theorem dX2_takeBack_5 : decode cX2_takeBack 5 = .ok (.bipush 7, 2) := by decide +kernel
theorem dX2_takeBack_7 : decode cX2_takeBack 7 = .ok (.iadd, 1) := by decide +kernel
theorem dX2_takeBack_8 : decode cX2_takeBack 8 = .ok (.iconst 1, 1) := by decide +kernel
theorem dX2_takeBack_9 : decode cX2_takeBack 9 = .ok (.isub, 1) := by decide +kernel
theorem dX2_takeBack_10 : decode cX2_takeBack 10 = .ok (.bipush 7, 2) := by decide +kernel
theorem dX2_takeBack_12 : decode cX2_takeBack 12 = .ok (.irem, 1) := by decide +kernel
theorem dX2_takeBack_13 : decode cX2_takeBack 13 = .ok (.putfield 22, 3) := by decide +kernel
theorem dX2_takeBack_16 : decode cX2_takeBack 16 = .ok (.aload_n 0, 1) := by decide +kernel
theorem dX2_takeBack_17 : decode cX2_takeBack 17 = .ok (.dup, 1) := by decide +kernel
theorem dX2_takeBack_18 : decode cX2_takeBack 18 = .ok (.getfield 18, 3) := by decide +kernel
theorem dX2_takeBack_21 : decode cX2_takeBack 21 = .ok (.iconst 1, 1) := by decide +kernel
theorem dX2_takeBack_22 : decode cX2_takeBack 22 = .ok (.isub, 1) := by decide +kernel
theorem dX2_takeBack_23 : decode cX2_takeBack 23 = .ok (.putfield 18, 3) := by decide +kernel
theorem dX2_takeBack_26 : decode cX2_takeBack 26 = .ok (.aload_n 1, 1) := by decide +kernel
theorem dX2_takeBack_27 : decode cX2_takeBack 27 = .ok (.aload_n 0, 1) := by decide +kernel
theorem dX2_takeBack_28 : decode cX2_takeBack 28 = .ok (.getfield 13, 3) := by decide +kernel
theorem dX2_takeBack_31 : decode cX2_takeBack 31 = .ok (.aload_n 0, 1) := by decide +kernel
theorem dX2_takeBack_32 : decode cX2_takeBack 32 = .ok (.getfield 22, 3) := by decide +kernel
theorem dX2_takeBack_35 : decode cX2_takeBack 35 = .ok (.aaload, 1) := by decide +kernel
theorem dX2_takeBack_36 : decode cX2_takeBack 36 = .ok (.invokevirtual 25, 3) := by decide +kernel
theorem dX2_takeBack_39 : decode cX2_takeBack 39 = .ok (.return_, 1) := by decide +kernel
theorem dX2_clear_0 : decode cX2_clear 0 = .ok (.aload_n 0, 1) := by decide +kernel
theorem dX2_clear_1 : decode cX2_clear 1 = .ok (.iconst 0, 1) := by decide +kernel
theorem dX2_clear_2 : decode cX2_clear 2 = .ok (.putfield 18, 3) := by decide +kernel
theorem dX2_clear_5 : decode cX2_clear 5 = .ok (.return_, 1) := by decide +kernel
theorem dX3_init_0 : decode cX3_init 0 = .ok (.aload_n 0, 1) := by decide +kernel
theorem dX3_init_1 : decode cX3_init 1 = .ok (.invokespecial 1, 3) := by decide +kernel
theorem dX3_init_4 : decode cX3_init 4 = .ok (.aload_n 0, 1) := by decide +kernel
theorem dX3_init_5 : decode cX3_init 5 = .ok (.bipush 100, 2) := by decide +kernel
theorem dX3_init_7 : decode cX3_init 7 = .ok (.newarray .int, 2) := by decide +kernel
theorem dX3_init_9 : decode cX3_init 9 = .ok (.putfield 9, 3) := by decide +kernel
theorem dX3_init_12 : decode cX3_init 12 = .ok (.return_, 1) := by decide +kernel
theorem dX3_copyFrom_0 : decode cX3_copyFrom 0 = .ok (.aload_n 1, 1) := by decide +kernel
theorem dX3_copyFrom_1 : decode cX3_copyFrom 1 = .ok (.getfield 9, 3) := by decide +kernel
theorem dX3_copyFrom_4 : decode cX3_copyFrom 4 = .ok (.iconst 0, 1) := by decide +kernel
theorem dX3_copyFrom_5 : decode cX3_copyFrom 5 = .ok (.aload_n 0, 1) := by decide +kernel
theorem dX3_copyFrom_6 : decode cX3_copyFrom 6 = .ok (.getfield 9, 3) := by decide +kernel
theorem dX3_copyFrom_9 : decode cX3_copyFrom 9 = .ok (.iconst 0, 1) := by decide +kernel
theorem dX3_copyFrom_10 : decode cX3_copyFrom 10 = .ok (.aload_n 0, 1) := by decide +kernel
theorem dX3_copyFrom_11 : decode cX3_copyFrom 11 = .ok (.getfield 9, 3) := by decide +kernel
theorem dX3_copyFrom_14 : decode cX3_copyFrom 14 = .ok (.arraylength, 1) := by decide +kernel
theorem dX3_copyFrom_15 : decode cX3_copyFrom 15 = .ok (.invokestatic 13, 3) := by decide +kernel
theorem dX3_copyFrom_18 : decode cX3_copyFrom 18 = .ok (.aload_n 0, 1) := by decide +kernel
theorem dX3_copyFrom_19 : decode cX3_copyFrom 19 = .ok (.aload_n 1, 1) := by decide +kernel
theorem dX3_copyFrom_20 : decode cX3_copyFrom 20 = .ok (.getfield 19, 3) := by decide +kernel
theorem dX3_copyFrom_23 : decode cX3_copyFrom 23 = .ok (.putfield 19, 3) := by decide +kernel
theorem dX3_copyFrom_26 : decode cX3_copyFrom 26 = .ok (.aload_n 0, 1) := by decide +kernel
theorem dX3_copyFrom_27 : decode cX3_copyFrom 27 = .ok (.aload_n 1, 1) := by decide +kernel
theorem dX3_copyFrom_28 : decode cX3_copyFrom 28 = .ok (.getfield 23, 3) := by decide +kernel
theorem dX3_copyFrom_31 : decode cX3_copyFrom 31 = .ok (.putfield 23, 3) := by decide +kernel
theorem dX3_copyFrom_34 : decode cX3_copyFrom 34 = .ok (.aload_n 0, 1) := by decide +kernel
theorem dX3_copyFrom_35 : decode cX3_copyFrom 35 = .ok (.aload_n 1, 1) := by decide +kernel
theorem dX3_copyFrom_36 : decode cX3_copyFrom 36 = .ok (.getfield 26, 3) := by decide +kernel
theorem dX3_copyFrom_39 : decode cX3_copyFrom 39 = .ok (.putfield 26, 3) := by decide +kernel
theorem dX3_copyFrom_42 : decode cX3_copyFrom 42 = .ok (.return_, 1) := by decide +kernel
theorem dX3_total_0 : decode cX3_total 0 = .ok (.aload_n 0, 1) := by decide +kernel
theorem dX3_total_1 : decode cX3_total 1 = .ok (.getfield 19, 3) := by decide +kernel
theorem dX3_total_4 : decode cX3_total 4 = .ok (.ireturn, 1) := by decide +kernel
theorem dX3_minutes_0 : decode cX3_minutes 0 = .ok (.aload_n 0, 1) := by decide +kernel
theorem dX3_minutes_1 : decode cX3_minutes 1 = .ok (.getfield 23, 3) := by decide +kernel
theorem dX3_minutes_4 : decode cX3_minutes 4 = .ok (.ireturn, 1) := by decide +kernel
theorem dX3_greatestEnd_0 : decode cX3_greatestEnd 0 = .ok (.aload_n 0, 1) := by decide +kernel
theorem dX3_greatestEnd_1 : decode cX3_greatestEnd 1 = .ok (.getfield 26, 3) := by decide +kernel
theorem dX3_greatestEnd_4 : decode cX3_greatestEnd 4 = .ok (.ireturn, 1) := by decide +kernel
theorem dX3_kept_0 : decode cX3_kept 0 = .ok (.aload_n 0, 1) := by decide +kernel
theorem dX3_kept_1 : decode cX3_kept 1 = .ok (.getfield 19, 3) := by decide +kernel
theorem dX3_kept_4 : decode cX3_kept 4 = .ok (.bipush 20, 2) := by decide +kernel
theorem dX3_kept_6 : decode cX3_kept 6 = .ok (.invokestatic 29, 3) := by decide +kernel
theorem dX3_kept_9 : decode cX3_kept 9 = .ok (.ireturn, 1) := by decide +kernel
theorem dX3_add_0 : decode cX3_add 0 = .ok (.aload_n 0, 1) := by decide +kernel
theorem dX3_add_1 : decode cX3_add 1 = .ok (.getfield 19, 3) := by decide +kernel
theorem dX3_add_4 : decode cX3_add 4 = .ok (.bipush 20, 2) := by decide +kernel
theorem dX3_add_6 : decode cX3_add 6 = .ok (.irem, 1) := by decide +kernel
theorem dX3_add_7 : decode cX3_add 7 = .ok (.iconst 5, 1) := by decide +kernel
theorem dX3_add_8 : decode cX3_add 8 = .ok (.imul, 1) := by decide +kernel
theorem dX3_add_9 : decode cX3_add 9 = .ok (.istore 6, 2) := by decide +kernel
theorem dX3_add_11 : decode cX3_add 11 = .ok (.aload_n 0, 1) := by decide +kernel
theorem dX3_add_12 : decode cX3_add 12 = .ok (.getfield 9, 3) := by decide +kernel
theorem dX3_add_15 : decode cX3_add 15 = .ok (.iload 6, 2) := by decide +kernel
theorem dX3_add_17 : decode cX3_add 17 = .ok (.iload_n 1, 1) := by decide +kernel
theorem dX3_add_18 : decode cX3_add 18 = .ok (.iastore, 1) := by decide +kernel
theorem dX3_add_19 : decode cX3_add 19 = .ok (.aload_n 0, 1) := by decide +kernel
theorem dX3_add_20 : decode cX3_add 20 = .ok (.getfield 9, 3) := by decide +kernel
theorem dX3_add_23 : decode cX3_add 23 = .ok (.iload 6, 2) := by decide +kernel
theorem dX3_add_25 : decode cX3_add 25 = .ok (.iconst 1, 1) := by decide +kernel
theorem dX3_add_26 : decode cX3_add 26 = .ok (.iadd, 1) := by decide +kernel
theorem dX3_add_27 : decode cX3_add 27 = .ok (.iload_n 2, 1) := by decide +kernel
theorem dX3_add_28 : decode cX3_add 28 = .ok (.iastore, 1) := by decide +kernel
theorem dX3_add_29 : decode cX3_add 29 = .ok (.aload_n 0, 1) := by decide +kernel
theorem dX3_add_30 : decode cX3_add 30 = .ok (.getfield 9, 3) := by decide +kernel
theorem dX3_add_33 : decode cX3_add 33 = .ok (.iload 6, 2) := by decide +kernel
theorem dX3_add_35 : decode cX3_add 35 = .ok (.iconst 2, 1) := by decide +kernel
theorem dX3_add_36 : decode cX3_add 36 = .ok (.iadd, 1) := by decide +kernel
theorem dX3_add_37 : decode cX3_add 37 = .ok (.iload_n 3, 1) := by decide +kernel
theorem dX3_add_38 : decode cX3_add 38 = .ok (.iastore, 1) := by decide +kernel
theorem dX3_add_39 : decode cX3_add 39 = .ok (.aload_n 0, 1) := by decide +kernel
theorem dX3_add_40 : decode cX3_add 40 = .ok (.getfield 9, 3) := by decide +kernel
theorem dX3_add_43 : decode cX3_add 43 = .ok (.iload 6, 2) := by decide +kernel
theorem dX3_add_45 : decode cX3_add 45 = .ok (.iconst 3, 1) := by decide +kernel
theorem dX3_add_46 : decode cX3_add 46 = .ok (.iadd, 1) := by decide +kernel
theorem dX3_add_47 : decode cX3_add 47 = .ok (.iload 4, 2) := by decide +kernel
theorem dX3_add_49 : decode cX3_add 49 = .ok (.iastore, 1) := by decide +kernel
theorem dX3_add_50 : decode cX3_add 50 = .ok (.aload_n 0, 1) := by decide +kernel
theorem dX3_add_51 : decode cX3_add 51 = .ok (.getfield 9, 3) := by decide +kernel
theorem dX3_add_54 : decode cX3_add 54 = .ok (.iload 6, 2) := by decide +kernel
theorem dX3_add_56 : decode cX3_add 56 = .ok (.iconst 4, 1) := by decide +kernel
theorem dX3_add_57 : decode cX3_add 57 = .ok (.iadd, 1) := by decide +kernel
theorem dX3_add_58 : decode cX3_add 58 = .ok (.iload 5, 2) := by decide +kernel
theorem dX3_add_60 : decode cX3_add 60 = .ok (.iastore, 1) := by decide +kernel
theorem dX3_add_61 : decode cX3_add 61 = .ok (.aload_n 0, 1) := by decide +kernel
theorem dX3_add_62 : decode cX3_add 62 = .ok (.dup, 1) := by decide +kernel
theorem dX3_add_63 : decode cX3_add 63 = .ok (.getfield 19, 3) := by decide +kernel
theorem dX3_add_66 : decode cX3_add 66 = .ok (.iconst 1, 1) := by decide +kernel
theorem dX3_add_67 : decode cX3_add 67 = .ok (.iadd, 1) := by decide +kernel
theorem dX3_add_68 : decode cX3_add 68 = .ok (.putfield 19, 3) := by decide +kernel
theorem dX3_add_71 : decode cX3_add 71 = .ok (.aload_n 0, 1) := by decide +kernel
theorem dX3_add_72 : decode cX3_add 72 = .ok (.dup, 1) := by decide +kernel
theorem dX3_add_73 : decode cX3_add 73 = .ok (.getfield 23, 3) := by decide +kernel
theorem dX3_add_76 : decode cX3_add 76 = .ok (.iload 5, 2) := by decide +kernel
theorem dX3_add_78 : decode cX3_add 78 = .ok (.iload 4, 2) := by decide +kernel
theorem dX3_add_80 : decode cX3_add 80 = .ok (.isub, 1) := by decide +kernel
theorem dX3_add_81 : decode cX3_add 81 = .ok (.iadd, 1) := by decide +kernel
theorem dX3_add_82 : decode cX3_add 82 = .ok (.putfield 23, 3) := by decide +kernel
theorem dX3_add_85 : decode cX3_add 85 = .ok (.aload_n 0, 1) := by decide +kernel
theorem dX3_add_86 : decode cX3_add 86 = .ok (.aload_n 0, 1) := by decide +kernel
theorem dX3_add_87 : decode cX3_add 87 = .ok (.getfield 26, 3) := by decide +kernel
theorem dX3_add_90 : decode cX3_add 90 = .ok (.iload 5, 2) := by decide +kernel
theorem dX3_add_92 : decode cX3_add 92 = .ok (.invokestatic 35, 3) := by decide +kernel
theorem dX3_add_95 : decode cX3_add 95 = .ok (.putfield 26, 3) := by decide +kernel
theorem dX3_add_98 : decode cX3_add 98 = .ok (.return_, 1) := by decide +kernel
theorem dX3_partOf_0 : decode cX3_partOf 0 = .ok (.aload_n 0, 1) := by decide +kernel
theorem dX3_partOf_1 : decode cX3_partOf 1 = .ok (.getfield 9, 3) := by decide +kernel
theorem dX3_partOf_4 : decode cX3_partOf 4 = .ok (.aload_n 0, 1) := by decide +kernel
theorem dX3_partOf_5 : decode cX3_partOf 5 = .ok (.getfield 19, 3) := by decide +kernel
theorem dX3_partOf_8 : decode cX3_partOf 8 = .ok (.aload_n 0, 1) := by decide +kernel
theorem dX3_partOf_9 : decode cX3_partOf 9 = .ok (.invokevirtual 38, 3) := by decide +kernel
theorem dX3_partOf_12 : decode cX3_partOf 12 = .ok (.isub, 1) := by decide +kernel
theorem dX3_partOf_13 : decode cX3_partOf 13 = .ok (.iload_n 1, 1) := by decide +kernel
theorem dX3_partOf_14 : decode cX3_partOf 14 = .ok (.iadd, 1) := by decide +kernel
theorem dX3_partOf_15 : decode cX3_partOf 15 = .ok (.bipush 20, 2) := by decide +kernel
theorem dX3_partOf_17 : decode cX3_partOf 17 = .ok (.irem, 1) := by decide +kernel
theorem dX3_partOf_18 : decode cX3_partOf 18 = .ok (.iconst 5, 1) := by decide +kernel
theorem dX3_partOf_19 : decode cX3_partOf 19 = .ok (.imul, 1) := by decide +kernel
theorem dX3_partOf_20 : decode cX3_partOf 20 = .ok (.iload_n 2, 1) := by decide +kernel
theorem dX3_partOf_21 : decode cX3_partOf 21 = .ok (.iadd, 1) := by decide +kernel
theorem dX3_partOf_22 : decode cX3_partOf 22 = .ok (.iaload, 1) := by decide +kernel
theorem dX3_partOf_23 : decode cX3_partOf 23 = .ok (.ireturn, 1) := by decide +kernel
theorem dX3_endOfLatest_0 : decode cX3_endOfLatest 0 = .ok (.iconst 0, 1) := by decide +kernel
theorem dX3_endOfLatest_1 : decode cX3_endOfLatest 1 = .ok (.istore_n 2, 1) := by decide +kernel
theorem dX3_endOfLatest_2 : decode cX3_endOfLatest 2 = .ok (.aload_n 0, 1) := by decide +kernel
theorem dX3_endOfLatest_3 : decode cX3_endOfLatest 3 = .ok (.invokevirtual 38, 3) := by decide +kernel
theorem dX3_endOfLatest_6 : decode cX3_endOfLatest 6 = .ok (.iload_n 1, 1) := by decide +kernel
theorem dX3_endOfLatest_7 : decode cX3_endOfLatest 7 = .ok (.isub, 1) := by decide +kernel
theorem dX3_endOfLatest_8 : decode cX3_endOfLatest 8 = .ok (.iconst 0, 1) := by decide +kernel
theorem dX3_endOfLatest_9 : decode cX3_endOfLatest 9 = .ok (.invokestatic 35, 3) := by decide +kernel
theorem dX3_endOfLatest_12 : decode cX3_endOfLatest 12 = .ok (.istore_n 3, 1) := by decide +kernel
theorem dX3_endOfLatest_13 : decode cX3_endOfLatest 13 = .ok (.iload_n 3, 1) := by decide +kernel
theorem dX3_endOfLatest_14 : decode cX3_endOfLatest 14 = .ok (.aload_n 0, 1) := by decide +kernel
theorem dX3_endOfLatest_15 : decode cX3_endOfLatest 15 = .ok (.invokevirtual 38, 3) := by decide +kernel
theorem dX3_endOfLatest_18 : decode cX3_endOfLatest 18 = .ok (.if_icmp .ge 20, 3) := by decide +kernel
theorem dX3_endOfLatest_21 : decode cX3_endOfLatest 21 = .ok (.iload_n 2, 1) := by decide +kernel
theorem dX3_endOfLatest_22 : decode cX3_endOfLatest 22 = .ok (.aload_n 0, 1) := by decide +kernel
theorem dX3_endOfLatest_23 : decode cX3_endOfLatest 23 = .ok (.iload_n 3, 1) := by decide +kernel
theorem dX3_endOfLatest_24 : decode cX3_endOfLatest 24 = .ok (.iconst 4, 1) := by decide +kernel
theorem dX3_endOfLatest_25 : decode cX3_endOfLatest 25 = .ok (.invokevirtual 42, 3) := by decide +kernel
theorem dX3_endOfLatest_28 : decode cX3_endOfLatest 28 = .ok (.invokestatic 35, 3) := by decide +kernel
theorem dX3_endOfLatest_31 : decode cX3_endOfLatest 31 = .ok (.istore_n 2, 1) := by decide +kernel
theorem dX3_endOfLatest_32 : decode cX3_endOfLatest 32 = .ok (.iinc 3 1, 3) := by decide +kernel
theorem dX3_endOfLatest_35 : decode cX3_endOfLatest 35 = .ok (.goto (-22), 3) := by decide +kernel
theorem dX3_endOfLatest_38 : decode cX3_endOfLatest 38 = .ok (.iload_n 2, 1) := by decide +kernel
theorem dX3_endOfLatest_39 : decode cX3_endOfLatest 39 = .ok (.ireturn, 1) := by decide +kernel
theorem dX4_init_0 : decode cX4_init 0 = .ok (.aload_n 0, 1) := by decide +kernel
theorem dX4_init_1 : decode cX4_init 1 = .ok (.invokespecial 1, 3) := by decide +kernel
theorem dX4_init_4 : decode cX4_init 4 = .ok (.aload_n 0, 1) := by decide +kernel
theorem dX4_init_5 : decode cX4_init 5 = .ok (.iload_n 1, 1) := by decide +kernel
theorem dX4_init_6 : decode cX4_init 6 = .ok (.putfield 7, 3) := by decide +kernel
theorem dX4_init_9 : decode cX4_init 9 = .ok (.return_, 1) := by decide +kernel
theorem dX4_copyFrom_0 : decode cX4_copyFrom 0 = .ok (.aload_n 0, 1) := by decide +kernel
theorem dX4_copyFrom_1 : decode cX4_copyFrom 1 = .ok (.aload_n 1, 1) := by decide +kernel
theorem dX4_copyFrom_2 : decode cX4_copyFrom 2 = .ok (.getfield 13, 3) := by decide +kernel
theorem dX4_copyFrom_5 : decode cX4_copyFrom 5 = .ok (.putfield 13, 3) := by decide +kernel
theorem dX4_copyFrom_8 : decode cX4_copyFrom 8 = .ok (.aload_n 0, 1) := by decide +kernel
theorem dX4_copyFrom_9 : decode cX4_copyFrom 9 = .ok (.aload_n 1, 1) := by decide +kernel
theorem dX4_copyFrom_10 : decode cX4_copyFrom 10 = .ok (.getfield 16, 3) := by decide +kernel
theorem dX4_copyFrom_13 : decode cX4_copyFrom 13 = .ok (.putfield 16, 3) := by decide +kernel
theorem dX4_copyFrom_16 : decode cX4_copyFrom 16 = .ok (.aload_n 0, 1) := by decide +kernel
theorem dX4_copyFrom_17 : decode cX4_copyFrom 17 = .ok (.aload_n 1, 1) := by decide +kernel
theorem dX4_copyFrom_18 : decode cX4_copyFrom 18 = .ok (.getfield 19, 3) := by decide +kernel
theorem dX4_copyFrom_21 : decode cX4_copyFrom 21 = .ok (.putfield 19, 3) := by decide +kernel
theorem dX4_copyFrom_24 : decode cX4_copyFrom 24 = .ok (.return_, 1) := by decide +kernel
theorem dX4_place_0 : decode cX4_place 0 = .ok (.aload_n 0, 1) := by decide +kernel
theorem dX4_place_1 : decode cX4_place 1 = .ok (.getfield 13, 3) := by decide +kernel
theorem dX4_place_4 : decode cX4_place 4 = .ok (.ireturn, 1) := by decide +kernel
theorem dX4_freeFrom_0 : decode cX4_freeFrom 0 = .ok (.aload_n 0, 1) := by decide +kernel
theorem dX4_freeFrom_1 : decode cX4_freeFrom 1 = .ok (.getfield 16, 3) := by decide +kernel
theorem dX4_freeFrom_4 : decode cX4_freeFrom 4 = .ok (.ireturn, 1) := by decide +kernel
theorem dX4_minutes_0 : decode cX4_minutes 0 = .ok (.aload_n 0, 1) := by decide +kernel
theorem dX4_minutes_1 : decode cX4_minutes 1 = .ok (.getfield 19, 3) := by decide +kernel
theorem dX4_minutes_4 : decode cX4_minutes 4 = .ok (.ireturn, 1) := by decide +kernel
theorem dX4_start_0 : decode cX4_start 0 = .ok (.aload_n 0, 1) := by decide +kernel
theorem dX4_start_1 : decode cX4_start 1 = .ok (.iload_n 1, 1) := by decide +kernel
theorem dX4_start_2 : decode cX4_start 2 = .ok (.aload_n 0, 1) := by decide +kernel
theorem dX4_start_3 : decode cX4_start 3 = .ok (.getfield 16, 3) := by decide +kernel
theorem dX4_start_6 : decode cX4_start 6 = .ok (.invokestatic 22, 3) := by decide +kernel
theorem dX4_start_9 : decode cX4_start 9 = .ok (.putfield 16, 3) := by decide +kernel
theorem dX4_start_12 : decode cX4_start 12 = .ok (.aload_n 0, 1) := by decide +kernel
theorem dX4_start_13 : decode cX4_start 13 = .ok (.dup, 1) := by decide +kernel
theorem dX4_start_14 : decode cX4_start 14 = .ok (.getfield 19, 3) := by decide +kernel
theorem dX4_start_17 : decode cX4_start 17 = .ok (.aload_n 0, 1) := by decide +kernel
theorem dX4_start_18 : decode cX4_start 18 = .ok (.getfield 16, 3) := by decide +kernel
theorem dX4_start_21 : decode cX4_start 21 = .ok (.isub, 1) := by decide +kernel
theorem dX4_start_22 : decode cX4_start 22 = .ok (.putfield 19, 3) := by decide +kernel
theorem dX4_start_25 : decode cX4_start 25 = .ok (.aload_n 0, 1) := by decide +kernel
theorem dX4_start_26 : decode cX4_start 26 = .ok (.getfield 16, 3) := by decide +kernel
theorem dX4_start_29 : decode cX4_start 29 = .ok (.ireturn, 1) := by decide +kernel
theorem dX4_goTo_0 : decode cX4_goTo 0 = .ok (.aload_n 0, 1) := by decide +kernel
theorem dX4_goTo_1 : decode cX4_goTo 1 = .ok (.dup, 1) := by decide +kernel
theorem dX4_goTo_2 : decode cX4_goTo 2 = .ok (.getfield 16, 3) := by decide +kernel
theorem dX4_goTo_5 : decode cX4_goTo 5 = .ok (.iload_n 1, 1) := by decide +kernel
theorem dX4_goTo_6 : decode cX4_goTo 6 = .ok (.aload_n 0, 1) := by decide +kernel
theorem dX4_goTo_7 : decode cX4_goTo 7 = .ok (.getfield 13, 3) := by decide +kernel
theorem dX4_goTo_10 : decode cX4_goTo 10 = .ok (.isub, 1) := by decide +kernel
theorem dX4_goTo_11 : decode cX4_goTo 11 = .ok (.invokestatic 28, 3) := by decide +kernel
theorem dX4_goTo_14 : decode cX4_goTo 14 = .ok (.aload_n 0, 1) := by decide +kernel
theorem dX4_goTo_15 : decode cX4_goTo 15 = .ok (.getfield 7, 3) := by decide +kernel
theorem dX4_goTo_18 : decode cX4_goTo 18 = .ok (.imul, 1) := by decide +kernel
theorem dX4_goTo_19 : decode cX4_goTo 19 = .ok (.iadd, 1) := by decide +kernel
theorem dX4_goTo_20 : decode cX4_goTo 20 = .ok (.putfield 16, 3) := by decide +kernel
theorem dX4_goTo_23 : decode cX4_goTo 23 = .ok (.aload_n 0, 1) := by decide +kernel
theorem dX4_goTo_24 : decode cX4_goTo 24 = .ok (.iload_n 1, 1) := by decide +kernel
theorem dX4_goTo_25 : decode cX4_goTo 25 = .ok (.putfield 13, 3) := by decide +kernel
theorem dX4_goTo_28 : decode cX4_goTo 28 = .ok (.return_, 1) := by decide +kernel
theorem dX4_work_0 : decode cX4_work 0 = .ok (.aload_n 0, 1) := by decide +kernel
theorem dX4_work_1 : decode cX4_work 1 = .ok (.dup, 1) := by decide +kernel
theorem dX4_work_2 : decode cX4_work 2 = .ok (.getfield 16, 3) := by decide +kernel
theorem dX4_work_5 : decode cX4_work 5 = .ok (.iload_n 1, 1) := by decide +kernel
theorem dX4_work_6 : decode cX4_work 6 = .ok (.iadd, 1) := by decide +kernel
theorem dX4_work_7 : decode cX4_work 7 = .ok (.putfield 16, 3) := by decide +kernel
theorem dX4_work_10 : decode cX4_work 10 = .ok (.return_, 1) := by decide +kernel
theorem dX4_handOver_0 : decode cX4_handOver 0 = .ok (.aload_n 0, 1) := by decide +kernel
theorem dX4_handOver_1 : decode cX4_handOver 1 = .ok (.getfield 16, 3) := by decide +kernel
theorem dX4_handOver_4 : decode cX4_handOver 4 = .ok (.aload_n 1, 1) := by decide +kernel
theorem dX4_handOver_5 : decode cX4_handOver 5 = .ok (.getfield 16, 3) := by decide +kernel
theorem dX4_handOver_8 : decode cX4_handOver 8 = .ok (.invokestatic 22, 3) := by decide +kernel
theorem dX4_handOver_11 : decode cX4_handOver 11 = .ok (.iconst 2, 1) := by decide +kernel
theorem dX4_handOver_12 : decode cX4_handOver 12 = .ok (.iadd, 1) := by decide +kernel
theorem dX4_handOver_13 : decode cX4_handOver 13 = .ok (.istore_n 2, 1) := by decide +kernel
theorem dX4_handOver_14 : decode cX4_handOver 14 = .ok (.aload_n 0, 1) := by decide +kernel
theorem dX4_handOver_15 : decode cX4_handOver 15 = .ok (.iload_n 2, 1) := by decide +kernel
theorem dX4_handOver_16 : decode cX4_handOver 16 = .ok (.putfield 16, 3) := by decide +kernel
theorem dX4_handOver_19 : decode cX4_handOver 19 = .ok (.aload_n 1, 1) := by decide +kernel
theorem dX4_handOver_20 : decode cX4_handOver 20 = .ok (.iload_n 2, 1) := by decide +kernel
theorem dX4_handOver_21 : decode cX4_handOver 21 = .ok (.putfield 16, 3) := by decide +kernel
theorem dX4_handOver_24 : decode cX4_handOver 24 = .ok (.return_, 1) := by decide +kernel
theorem dX4_finish_0 : decode cX4_finish 0 = .ok (.aload_n 0, 1) := by decide +kernel
theorem dX4_finish_1 : decode cX4_finish 1 = .ok (.dup, 1) := by decide +kernel
theorem dX4_finish_2 : decode cX4_finish 2 = .ok (.getfield 19, 3) := by decide +kernel
theorem dX4_finish_5 : decode cX4_finish 5 = .ok (.aload_n 0, 1) := by decide +kernel
theorem dX4_finish_6 : decode cX4_finish 6 = .ok (.getfield 16, 3) := by decide +kernel
theorem dX4_finish_9 : decode cX4_finish 9 = .ok (.iadd, 1) := by decide +kernel
theorem dX4_finish_10 : decode cX4_finish 10 = .ok (.putfield 19, 3) := by decide +kernel
theorem dX4_finish_13 : decode cX4_finish 13 = .ok (.aload_n 0, 1) := by decide +kernel
theorem dX4_finish_14 : decode cX4_finish 14 = .ok (.getfield 16, 3) := by decide +kernel
theorem dX4_finish_17 : decode cX4_finish 17 = .ok (.ireturn, 1) := by decide +kernel
theorem dX5_init_0 : decode cX5_init 0 = .ok (.aload_n 0, 1) := by decide +kernel
theorem dX5_init_1 : decode cX5_init 1 = .ok (.invokespecial 3, 3) := by decide +kernel
theorem dX5_init_4 : decode cX5_init 4 = .ok (.aload_n 0, 1) := by decide +kernel
theorem dX5_init_5 : decode cX5_init 5 = .ok (.bipush 6, 2) := by decide +kernel
theorem dX5_init_7 : decode cX5_init 7 = .ok (.anewarray 9, 3) := by decide +kernel
theorem dX5_init_10 : decode cX5_init 10 = .ok (.putfield 11, 3) := by decide +kernel
theorem dX5_init_13 : decode cX5_init 13 = .ok (.aload_n 0, 1) := by decide +kernel
theorem dX5_init_14 : decode cX5_init 14 = .ok (.iconst 5, 1) := by decide +kernel
theorem dX5_init_15 : decode cX5_init 15 = .ok (.newarray .int, 2) := by decide +kernel
theorem dX5_init_17 : decode cX5_init 17 = .ok (.putfield 17, 3) := by decide +kernel
theorem dX5_init_20 : decode cX5_init 20 = .ok (.aload_n 0, 1) := by decide +kernel
theorem dX5_init_21 : decode cX5_init 21 = .ok (.iconst 5, 1) := by decide +kernel
theorem dX5_init_22 : decode cX5_init 22 = .ok (.newarray .int, 2) := by decide +kernel
theorem dX5_init_24 : decode cX5_init 24 = .ok (.putfield 21, 3) := by decide +kernel
theorem dX5_init_27 : decode cX5_init 27 = .ok (.aload_n 0, 1) := by decide +kernel
theorem dX5_init_28 : decode cX5_init 28 = .ok (.iconst 5, 1) := by decide +kernel
theorem dX5_init_29 : decode cX5_init 29 = .ok (.newarray .int, 2) := by decide +kernel
theorem dX5_init_31 : decode cX5_init 31 = .ok (.putfield 24, 3) := by decide +kernel
theorem dX5_init_34 : decode cX5_init 34 = .ok (.iconst 0, 1) := by decide +kernel
theorem dX5_init_35 : decode cX5_init 35 = .ok (.istore_n 1, 1) := by decide +kernel
theorem dX5_init_36 : decode cX5_init 36 = .ok (.iload_n 1, 1) := by decide +kernel
theorem dX5_init_37 : decode cX5_init 37 = .ok (.iconst 5, 1) := by decide +kernel
theorem dX5_init_38 : decode cX5_init 38 = .ok (.if_icmp .gt 22, 3) := by decide +kernel
theorem dX5_init_41 : decode cX5_init 41 = .ok (.aload_n 0, 1) := by decide +kernel
theorem dX5_init_42 : decode cX5_init 42 = .ok (.getfield 11, 3) := by decide +kernel
theorem dX5_init_45 : decode cX5_init 45 = .ok (.iload_n 1, 1) := by decide +kernel
theorem dX5_init_46 : decode cX5_init 46 = .ok (.new 9, 3) := by decide +kernel
theorem dX5_init_49 : decode cX5_init 49 = .ok (.dup, 1) := by decide +kernel
theorem dX5_init_50 : decode cX5_init 50 = .ok (.invokespecial 27, 3) := by decide +kernel
theorem dX5_init_53 : decode cX5_init 53 = .ok (.aastore, 1) := by decide +kernel
theorem dX5_init_54 : decode cX5_init 54 = .ok (.iinc 1 1, 3) := by decide +kernel
theorem dX5_init_57 : decode cX5_init 57 = .ok (.goto (-21), 3) := by decide +kernel
theorem dX5_init_60 : decode cX5_init 60 = .ok (.return_, 1) := by decide +kernel
theorem dX5_movesOfBest_0 : decode cX5_movesOfBest 0 = .ok (.aload_n 0, 1) := by decide +kernel
theorem dX5_movesOfBest_1 : decode cX5_movesOfBest 1 = .ok (.getfield 28, 3) := by decide +kernel
theorem dX5_movesOfBest_4 : decode cX5_movesOfBest 4 = .ok (.ireturn, 1) := by decide +kernel
theorem dX5_endOfBest_0 : decode cX5_endOfBest 0 = .ok (.aload_n 0, 1) := by decide +kernel
theorem dX5_endOfBest_1 : decode cX5_endOfBest 1 = .ok (.getfield 32, 3) := by decide +kernel
theorem dX5_endOfBest_4 : decode cX5_endOfBest 4 = .ok (.ireturn, 1) := by decide +kernel
theorem dX5_carOfBest_0 : decode cX5_carOfBest 0 = .ok (.aload_n 0, 1) := by decide +kernel
theorem dX5_carOfBest_1 : decode cX5_carOfBest 1 = .ok (.getfield 24, 3) := by decide +kernel
theorem dX5_carOfBest_4 : decode cX5_carOfBest 4 = .ok (.iload_n 1, 1) := by decide +kernel
theorem dX5_carOfBest_5 : decode cX5_carOfBest 5 = .ok (.iaload, 1) := by decide +kernel
theorem dX5_carOfBest_6 : decode cX5_carOfBest 6 = .ok (.ireturn, 1) := by decide +kernel
theorem dX5_findBest_0 : decode cX5_findBest 0 = .ok (.aload_n 0, 1) := by decide +kernel
theorem dX5_findBest_1 : decode cX5_findBest 1 = .ok (.aload_n 1, 1) := by decide +kernel
theorem dX5_findBest_2 : decode cX5_findBest 2 = .ok (.invokevirtual 35, 3) := by decide +kernel
theorem dX5_findBest_5 : decode cX5_findBest 5 = .ok (.aload_n 0, 1) := by decide +kernel
theorem dX5_findBest_6 : decode cX5_findBest 6 = .ok (.iconst 0, 1) := by decide +kernel
theorem dX5_findBest_7 : decode cX5_findBest 7 = .ok (.putfield 39, 3) := by decide +kernel
theorem dX5_findBest_10 : decode cX5_findBest 10 = .ok (.iconst 0, 1) := by decide +kernel
theorem dX5_findBest_11 : decode cX5_findBest 11 = .ok (.istore 4, 2) := by decide +kernel
theorem dX5_findBest_13 : decode cX5_findBest 13 = .ok (.iload 4, 2) := by decide +kernel
theorem dX5_findBest_15 : decode cX5_findBest 15 = .ok (.bipush 40, 2) := by decide +kernel
theorem dX5_findBest_17 : decode cX5_findBest 17 = .ok (.if_icmp .ge 49, 3) := by decide +kernel
theorem dX5_findBest_20 : decode cX5_findBest 20 = .ok (.aload_n 0, 1) := by decide +kernel
theorem dX5_findBest_21 : decode cX5_findBest 21 = .ok (.getfield 39, 3) := by decide +kernel
theorem dX5_findBest_24 : decode cX5_findBest 24 = .ok (.iconst 5, 1) := by decide +kernel
theorem dX5_findBest_25 : decode cX5_findBest 25 = .ok (.if_icmp .ge 41, 3) := by decide +kernel
theorem dX5_findBest_28 : decode cX5_findBest 28 = .ok (.lload_n 2, 1) := by decide +kernel
theorem dX5_findBest_29 : decode cX5_findBest 29 = .ok (.iload 4, 2) := by decide +kernel
theorem dX5_findBest_31 : decode cX5_findBest 31 = .ok (.lshr, 1) := by decide +kernel
theorem dX5_findBest_32 : decode cX5_findBest 32 = .ok (.lconst 1, 1) := by decide +kernel
theorem dX5_findBest_33 : decode cX5_findBest 33 = .ok (.land, 1) := by decide +kernel
theorem dX5_findBest_34 : decode cX5_findBest 34 = .ok (.lconst 0, 1) := by decide +kernel
theorem dX5_findBest_35 : decode cX5_findBest 35 = .ok (.lcmp, 1) := by decide +kernel
theorem dX5_findBest_36 : decode cX5_findBest 36 = .ok (.ifCond .eq 24, 3) := by decide +kernel
theorem dX5_findBest_39 : decode cX5_findBest 39 = .ok (.aload_n 0, 1) := by decide +kernel
theorem dX5_findBest_40 : decode cX5_findBest 40 = .ok (.getfield 17, 3) := by decide +kernel
theorem dX5_findBest_43 : decode cX5_findBest 43 = .ok (.aload_n 0, 1) := by decide +kernel
theorem dX5_findBest_44 : decode cX5_findBest 44 = .ok (.getfield 39, 3) := by decide +kernel
theorem dX5_findBest_47 : decode cX5_findBest 47 = .ok (.iload 4, 2) := by decide +kernel
theorem dX5_findBest_49 : decode cX5_findBest 49 = .ok (.iastore, 1) := by decide +kernel
theorem dX5_findBest_50 : decode cX5_findBest 50 = .ok (.aload_n 0, 1) := by decide +kernel
theorem dX5_findBest_51 : decode cX5_findBest 51 = .ok (.dup, 1) := by decide +kernel
theorem dX5_findBest_52 : decode cX5_findBest 52 = .ok (.getfield 39, 3) := by decide +kernel
theorem dX5_findBest_55 : decode cX5_findBest 55 = .ok (.iconst 1, 1) := by decide +kernel
theorem dX5_findBest_56 : decode cX5_findBest 56 = .ok (.iadd, 1) := by decide +kernel
theorem dX5_findBest_57 : decode cX5_findBest 57 = .ok (.putfield 39, 3) := by decide +kernel
theorem dX5_findBest_60 : decode cX5_findBest 60 = .ok (.iinc 4 1, 3) := by decide +kernel
theorem dX5_findBest_63 : decode cX5_findBest 63 = .ok (.goto (-50), 3) := by decide +kernel
theorem dX5_findBest_66 : decode cX5_findBest 66 = .ok (.aload_n 0, 1) := by decide +kernel
theorem dX5_findBest_67 : decode cX5_findBest 67 = .ok (.iconst 0, 1) := by decide +kernel
theorem dX5_findBest_68 : decode cX5_findBest 68 = .ok (.putfield 28, 3) := by decide +kernel
theorem dX5_findBest_71 : decode cX5_findBest 71 = .ok (.aload_n 0, 1) := by decide +kernel
theorem dX5_findBest_72 : decode cX5_findBest 72 = .ok (.iconst 0, 1) := by decide +kernel
theorem dX5_findBest_73 : decode cX5_findBest 73 = .ok (.invokevirtual 42, 3) := by decide +kernel
theorem dX5_findBest_76 : decode cX5_findBest 76 = .ok (.aload_n 0, 1) := by decide +kernel
theorem dX5_findBest_77 : decode cX5_findBest 77 = .ok (.getfield 28, 3) := by decide +kernel
theorem dX5_findBest_80 : decode cX5_findBest 80 = .ok (.ifCond .eq 7, 3) := by decide +kernel
theorem dX5_findBest_83 : decode cX5_findBest 83 = .ok (.iconst 1, 1) := by decide +kernel
theorem dX5_findBest_84 : decode cX5_findBest 84 = .ok (.goto 4, 3) := by decide +kernel
theorem dX5_findBest_87 : decode cX5_findBest 87 = .ok (.iconst 0, 1) := by decide +kernel
theorem dX5_findBest_88 : decode cX5_findBest 88 = .ok (.ireturn, 1) := by decide +kernel
theorem dX5_movesInPlainOrder_0 : decode cX5_movesInPlainOrder 0 = .ok (.aload_n 0, 1) := by decide +kernel
theorem dX5_movesInPlainOrder_1 : decode cX5_movesInPlainOrder 1 = .ok (.aload_n 1, 1) := by decide +kernel
theorem dX5_movesInPlainOrder_2 : decode cX5_movesInPlainOrder 2 = .ok (.invokevirtual 35, 3) := by decide +kernel
theorem dX5_movesInPlainOrder_5 : decode cX5_movesInPlainOrder 5 = .ok (.aload_n 0, 1) := by decide +kernel
theorem dX5_movesInPlainOrder_6 : decode cX5_movesInPlainOrder 6 = .ok (.aload_n 1, 1) := by decide +kernel
theorem dX5_movesInPlainOrder_7 : decode cX5_movesInPlainOrder 7 = .ok (.lload_n 2, 1) := by decide +kernel
theorem dX5_movesInPlainOrder_8 : decode cX5_movesInPlainOrder 8 = .ok (.aload_n 0, 1) := by decide +kernel
theorem dX5_movesInPlainOrder_9 : decode cX5_movesInPlainOrder 9 = .ok (.getfield 17, 3) := by decide +kernel
theorem dX5_movesInPlainOrder_12 : decode cX5_movesInPlainOrder 12 = .ok (.invokevirtual 46, 3) := by decide +kernel
theorem dX5_movesInPlainOrder_15 : decode cX5_movesInPlainOrder 15 = .ok (.putfield 39, 3) := by decide +kernel
theorem dX5_movesInPlainOrder_18 : decode cX5_movesInPlainOrder 18 = .ok (.iconst 0, 1) := by decide +kernel
theorem dX5_movesInPlainOrder_19 : decode cX5_movesInPlainOrder 19 = .ok (.istore 4, 2) := by decide +kernel
theorem dX5_movesInPlainOrder_21 : decode cX5_movesInPlainOrder 21 = .ok (.iload 4, 2) := by decide +kernel
theorem dX5_movesInPlainOrder_23 : decode cX5_movesInPlainOrder 23 = .ok (.aload_n 0, 1) := by decide +kernel
theorem dX5_movesInPlainOrder_24 : decode cX5_movesInPlainOrder 24 = .ok (.getfield 39, 3) := by decide +kernel
theorem dX5_movesInPlainOrder_27 : decode cX5_movesInPlainOrder 27 = .ok (.if_icmp .ge 30, 3) := by decide +kernel
theorem dX5_movesInPlainOrder_30 : decode cX5_movesInPlainOrder 30 = .ok (.aload_n 0, 1) := by decide +kernel
theorem dX5_movesInPlainOrder_31 : decode cX5_movesInPlainOrder 31 = .ok (.getfield 11, 3) := by decide +kernel
theorem dX5_movesInPlainOrder_34 : decode cX5_movesInPlainOrder 34 = .ok (.iconst 0, 1) := by decide +kernel
theorem dX5_movesInPlainOrder_35 : decode cX5_movesInPlainOrder 35 = .ok (.aaload, 1) := by decide +kernel
theorem dX5_movesInPlainOrder_36 : decode cX5_movesInPlainOrder 36 = .ok (.aload_n 0, 1) := by decide +kernel
theorem dX5_movesInPlainOrder_37 : decode cX5_movesInPlainOrder 37 = .ok (.getfield 17, 3) := by decide +kernel
theorem dX5_movesInPlainOrder_40 : decode cX5_movesInPlainOrder 40 = .ok (.iload 4, 2) := by decide +kernel
theorem dX5_movesInPlainOrder_42 : decode cX5_movesInPlainOrder 42 = .ok (.iaload, 1) := by decide +kernel
theorem dX5_movesInPlainOrder_43 : decode cX5_movesInPlainOrder 43 = .ok (.invokevirtual 50, 3) := by decide +kernel
theorem dX5_movesInPlainOrder_46 : decode cX5_movesInPlainOrder 46 = .ok (.ifCond .ne 5, 3) := by decide +kernel
theorem dX5_movesInPlainOrder_49 : decode cX5_movesInPlainOrder 49 = .ok (.iconst 0, 1) := by decide +kernel
theorem dX5_movesInPlainOrder_50 : decode cX5_movesInPlainOrder 50 = .ok (.ireturn, 1) := by decide +kernel
theorem dX5_movesInPlainOrder_51 : decode cX5_movesInPlainOrder 51 = .ok (.iinc 4 1, 3) := by decide +kernel
theorem dX5_movesInPlainOrder_54 : decode cX5_movesInPlainOrder 54 = .ok (.goto (-33), 3) := by decide +kernel
theorem dX5_movesInPlainOrder_57 : decode cX5_movesInPlainOrder 57 = .ok (.aload_n 0, 1) := by decide +kernel
theorem dX5_movesInPlainOrder_58 : decode cX5_movesInPlainOrder 58 = .ok (.iconst 0, 1) := by decide +kernel
theorem dX5_movesInPlainOrder_59 : decode cX5_movesInPlainOrder 59 = .ok (.invokevirtual 54, 3) := by decide +kernel
theorem dX5_movesInPlainOrder_62 : decode cX5_movesInPlainOrder 62 = .ok (.ireturn, 1) := by decide +kernel
theorem dX5_begin_0 : decode cX5_begin 0 = .ok (.aload_n 0, 1) := by decide +kernel
theorem dX5_begin_1 : decode cX5_begin 1 = .ok (.getfield 11, 3) := by decide +kernel
theorem dX5_begin_4 : decode cX5_begin 4 = .ok (.iconst 0, 1) := by decide +kernel
theorem dX5_begin_5 : decode cX5_begin 5 = .ok (.aaload, 1) := by decide +kernel
theorem dX5_begin_6 : decode cX5_begin 6 = .ok (.aload_n 1, 1) := by decide +kernel
theorem dX5_begin_7 : decode cX5_begin 7 = .ok (.invokevirtual 57, 3) := by decide +kernel
theorem dX5_begin_10 : decode cX5_begin 10 = .ok (.aload_n 0, 1) := by decide +kernel
theorem dX5_begin_11 : decode cX5_begin 11 = .ok (.aload_n 1, 1) := by decide +kernel
theorem dX5_begin_12 : decode cX5_begin 12 = .ok (.invokevirtual 60, 3) := by decide +kernel
theorem dX5_begin_15 : decode cX5_begin 15 = .ok (.invokevirtual 64, 3) := by decide +kernel
theorem dX5_begin_18 : decode cX5_begin 18 = .ok (.putfield 70, 3) := by decide +kernel
theorem dX5_begin_21 : decode cX5_begin 21 = .ok (.return_, 1) := by decide +kernel
theorem dX5_movesAt_0 : decode cX5_movesAt 0 = .ok (.aload_n 0, 1) := by decide +kernel
theorem dX5_movesAt_1 : decode cX5_movesAt 1 = .ok (.getfield 11, 3) := by decide +kernel
theorem dX5_movesAt_4 : decode cX5_movesAt 4 = .ok (.iload_n 1, 1) := by decide +kernel
theorem dX5_movesAt_5 : decode cX5_movesAt 5 = .ok (.aaload, 1) := by decide +kernel
theorem dX5_movesAt_6 : decode cX5_movesAt 6 = .ok (.invokevirtual 60, 3) := by decide +kernel
theorem dX5_movesAt_9 : decode cX5_movesAt 9 = .ok (.invokevirtual 64, 3) := by decide +kernel
theorem dX5_movesAt_12 : decode cX5_movesAt 12 = .ok (.aload_n 0, 1) := by decide +kernel
theorem dX5_movesAt_13 : decode cX5_movesAt 13 = .ok (.getfield 70, 3) := by decide +kernel
theorem dX5_movesAt_16 : decode cX5_movesAt 16 = .ok (.isub, 1) := by decide +kernel
theorem dX5_movesAt_17 : decode cX5_movesAt 17 = .ok (.ireturn, 1) := by decide +kernel
theorem dX5_tryFrom_0 : decode cX5_tryFrom 0 = .ok (.iload_n 1, 1) := by decide +kernel
theorem dX5_tryFrom_1 : decode cX5_tryFrom 1 = .ok (.aload_n 0, 1) := by decide +kernel
theorem dX5_tryFrom_2 : decode cX5_tryFrom 2 = .ok (.getfield 39, 3) := by decide +kernel
theorem dX5_tryFrom_5 : decode cX5_tryFrom 5 = .ok (.if_icmp .lt 22, 3) := by decide +kernel
theorem dX5_tryFrom_8 : decode cX5_tryFrom 8 = .ok (.aload_n 0, 1) := by decide +kernel
theorem dX5_tryFrom_9 : decode cX5_tryFrom 9 = .ok (.aload_n 0, 1) := by decide +kernel
theorem dX5_tryFrom_10 : decode cX5_tryFrom 10 = .ok (.iload_n 1, 1) := by decide +kernel
theorem dX5_tryFrom_11 : decode cX5_tryFrom 11 = .ok (.invokevirtual 54, 3) := by decide +kernel
theorem dX5_tryFrom_14 : decode cX5_tryFrom 14 = .ok (.aload_n 0, 1) := by decide +kernel
theorem dX5_tryFrom_15 : decode cX5_tryFrom 15 = .ok (.getfield 11, 3) := by decide +kernel
theorem dX5_tryFrom_18 : decode cX5_tryFrom 18 = .ok (.iload_n 1, 1) := by decide +kernel
theorem dX5_tryFrom_19 : decode cX5_tryFrom 19 = .ok (.aaload, 1) := by decide +kernel
theorem dX5_tryFrom_20 : decode cX5_tryFrom 20 = .ok (.invokevirtual 60, 3) := by decide +kernel
theorem dX5_tryFrom_23 : decode cX5_tryFrom 23 = .ok (.invokevirtual 73, 3) := by decide +kernel
theorem dX5_tryFrom_26 : decode cX5_tryFrom 26 = .ok (.return_, 1) := by decide +kernel
theorem dX5_tryFrom_27 : decode cX5_tryFrom 27 = .ok (.iconst 0, 1) := by decide +kernel
theorem dX5_tryFrom_28 : decode cX5_tryFrom 28 = .ok (.istore_n 2, 1) := by decide +kernel
theorem dX5_tryFrom_29 : decode cX5_tryFrom 29 = .ok (.iload_n 2, 1) := by decide +kernel
theorem dX5_tryFrom_30 : decode cX5_tryFrom 30 = .ok (.aload_n 0, 1) := by decide +kernel
theorem dX5_tryFrom_31 : decode cX5_tryFrom 31 = .ok (.getfield 39, 3) := by decide +kernel
theorem dX5_tryFrom_34 : decode cX5_tryFrom 34 = .ok (.if_icmp .ge 38, 3) := by decide +kernel
theorem dX5_tryFrom_37 : decode cX5_tryFrom 37 = .ok (.aload_n 0, 1) := by decide +kernel
theorem dX5_tryFrom_38 : decode cX5_tryFrom 38 = .ok (.getfield 11, 3) := by decide +kernel
theorem dX5_tryFrom_41 : decode cX5_tryFrom 41 = .ok (.iload_n 1, 1) := by decide +kernel
theorem dX5_tryFrom_42 : decode cX5_tryFrom 42 = .ok (.aaload, 1) := by decide +kernel
theorem dX5_tryFrom_43 : decode cX5_tryFrom 43 = .ok (.aload_n 0, 1) := by decide +kernel
theorem dX5_tryFrom_44 : decode cX5_tryFrom 44 = .ok (.getfield 17, 3) := by decide +kernel
theorem dX5_tryFrom_47 : decode cX5_tryFrom 47 = .ok (.iload_n 2, 1) := by decide +kernel
theorem dX5_tryFrom_48 : decode cX5_tryFrom 48 = .ok (.iaload, 1) := by decide +kernel
theorem dX5_tryFrom_49 : decode cX5_tryFrom 49 = .ok (.invokevirtual 77, 3) := by decide +kernel
theorem dX5_tryFrom_52 : decode cX5_tryFrom 52 = .ok (.ifCond .eq 14, 3) := by decide +kernel
theorem dX5_tryFrom_55 : decode cX5_tryFrom 55 = .ok (.aload_n 0, 1) := by decide +kernel
theorem dX5_tryFrom_56 : decode cX5_tryFrom 56 = .ok (.iload_n 1, 1) := by decide +kernel
theorem dX5_tryFrom_57 : decode cX5_tryFrom 57 = .ok (.aload_n 0, 1) := by decide +kernel
theorem dX5_tryFrom_58 : decode cX5_tryFrom 58 = .ok (.getfield 17, 3) := by decide +kernel
theorem dX5_tryFrom_61 : decode cX5_tryFrom 61 = .ok (.iload_n 2, 1) := by decide +kernel
theorem dX5_tryFrom_62 : decode cX5_tryFrom 62 = .ok (.iaload, 1) := by decide +kernel
theorem dX5_tryFrom_63 : decode cX5_tryFrom 63 = .ok (.invokevirtual 81, 3) := by decide +kernel
theorem dX5_tryFrom_66 : decode cX5_tryFrom 66 = .ok (.iinc 2 1, 3) := by decide +kernel
theorem dX5_tryFrom_69 : decode cX5_tryFrom 69 = .ok (.goto (-40), 3) := by decide +kernel
theorem dX5_tryFrom_72 : decode cX5_tryFrom 72 = .ok (.return_, 1) := by decide +kernel
theorem dX5_tryNext_0 : decode cX5_tryNext 0 = .ok (.aload_n 0, 1) := by decide +kernel
theorem dX5_tryNext_1 : decode cX5_tryNext 1 = .ok (.getfield 11, 3) := by decide +kernel
theorem dX5_tryNext_4 : decode cX5_tryNext 4 = .ok (.iload_n 1, 1) := by decide +kernel
theorem dX5_tryNext_5 : decode cX5_tryNext 5 = .ok (.iconst 1, 1) := by decide +kernel
theorem dX5_tryNext_6 : decode cX5_tryNext 6 = .ok (.iadd, 1) := by decide +kernel
theorem dX5_tryNext_7 : decode cX5_tryNext 7 = .ok (.aaload, 1) := by decide +kernel
theorem dX5_tryNext_8 : decode cX5_tryNext 8 = .ok (.aload_n 0, 1) := by decide +kernel
theorem dX5_tryNext_9 : decode cX5_tryNext 9 = .ok (.getfield 11, 3) := by decide +kernel
theorem dX5_tryNext_12 : decode cX5_tryNext 12 = .ok (.iload_n 1, 1) := by decide +kernel
theorem dX5_tryNext_13 : decode cX5_tryNext 13 = .ok (.aaload, 1) := by decide +kernel
theorem dX5_tryNext_14 : decode cX5_tryNext 14 = .ok (.invokevirtual 57, 3) := by decide +kernel
theorem dX5_tryNext_17 : decode cX5_tryNext 17 = .ok (.aload_n 0, 1) := by decide +kernel
theorem dX5_tryNext_18 : decode cX5_tryNext 18 = .ok (.getfield 11, 3) := by decide +kernel
theorem dX5_tryNext_21 : decode cX5_tryNext 21 = .ok (.iload_n 1, 1) := by decide +kernel
theorem dX5_tryNext_22 : decode cX5_tryNext 22 = .ok (.iconst 1, 1) := by decide +kernel
theorem dX5_tryNext_23 : decode cX5_tryNext 23 = .ok (.iadd, 1) := by decide +kernel
theorem dX5_tryNext_24 : decode cX5_tryNext 24 = .ok (.aaload, 1) := by decide +kernel
theorem dX5_tryNext_25 : decode cX5_tryNext 25 = .ok (.iload_n 2, 1) := by decide +kernel
theorem dX5_tryNext_26 : decode cX5_tryNext 26 = .ok (.invokevirtual 50, 3) := by decide +kernel
theorem dX5_tryNext_29 : decode cX5_tryNext 29 = .ok (.ifCond .eq 13, 3) := by decide +kernel
theorem dX5_tryNext_32 : decode cX5_tryNext 32 = .ok (.aload_n 0, 1) := by decide +kernel
theorem dX5_tryNext_33 : decode cX5_tryNext 33 = .ok (.iload_n 1, 1) := by decide +kernel
theorem dX5_tryNext_34 : decode cX5_tryNext 34 = .ok (.iconst 1, 1) := by decide +kernel
theorem dX5_tryNext_35 : decode cX5_tryNext 35 = .ok (.iadd, 1) := by decide +kernel
theorem dX5_tryNext_36 : decode cX5_tryNext 36 = .ok (.invokevirtual 85, 3) := by decide +kernel
theorem dX5_tryNext_39 : decode cX5_tryNext 39 = .ok (.ifCond .eq 4, 3) := by decide +kernel
theorem dX5_tryNext_42 : decode cX5_tryNext 42 = .ok (.return_, 1) := by decide +kernel
theorem dX5_tryNext_43 : decode cX5_tryNext 43 = .ok (.aload_n 0, 1) := by decide +kernel
theorem dX5_tryNext_44 : decode cX5_tryNext 44 = .ok (.getfield 21, 3) := by decide +kernel
theorem dX5_tryNext_47 : decode cX5_tryNext 47 = .ok (.iload_n 1, 1) := by decide +kernel
theorem dX5_tryNext_48 : decode cX5_tryNext 48 = .ok (.iload_n 2, 1) := by decide +kernel
theorem dX5_tryNext_49 : decode cX5_tryNext 49 = .ok (.iastore, 1) := by decide +kernel
theorem dX5_tryNext_50 : decode cX5_tryNext 50 = .ok (.aload_n 0, 1) := by decide +kernel
theorem dX5_tryNext_51 : decode cX5_tryNext 51 = .ok (.iload_n 1, 1) := by decide +kernel
theorem dX5_tryNext_52 : decode cX5_tryNext 52 = .ok (.iconst 1, 1) := by decide +kernel
theorem dX5_tryNext_53 : decode cX5_tryNext 53 = .ok (.iadd, 1) := by decide +kernel
theorem dX5_tryNext_54 : decode cX5_tryNext 54 = .ok (.invokevirtual 42, 3) := by decide +kernel
theorem dX5_tryNext_57 : decode cX5_tryNext 57 = .ok (.return_, 1) := by decide +kernel
theorem dX5_isTooLong_0 : decode cX5_isTooLong 0 = .ok (.aload_n 0, 1) := by decide +kernel
theorem dX5_isTooLong_1 : decode cX5_isTooLong 1 = .ok (.getfield 28, 3) := by decide +kernel
theorem dX5_isTooLong_4 : decode cX5_isTooLong 4 = .ok (.ifCond .eq 26, 3) := by decide +kernel
theorem dX5_isTooLong_7 : decode cX5_isTooLong 7 = .ok (.aload_n 0, 1) := by decide +kernel
theorem dX5_isTooLong_8 : decode cX5_isTooLong 8 = .ok (.iload_n 1, 1) := by decide +kernel
theorem dX5_isTooLong_9 : decode cX5_isTooLong 9 = .ok (.invokevirtual 54, 3) := by decide +kernel
theorem dX5_isTooLong_12 : decode cX5_isTooLong 12 = .ok (.aload_n 0, 1) := by decide +kernel
theorem dX5_isTooLong_13 : decode cX5_isTooLong 13 = .ok (.getfield 39, 3) := by decide +kernel
theorem dX5_isTooLong_16 : decode cX5_isTooLong 16 = .ok (.iadd, 1) := by decide +kernel
theorem dX5_isTooLong_17 : decode cX5_isTooLong 17 = .ok (.iload_n 1, 1) := by decide +kernel
theorem dX5_isTooLong_18 : decode cX5_isTooLong 18 = .ok (.isub, 1) := by decide +kernel
theorem dX5_isTooLong_19 : decode cX5_isTooLong 19 = .ok (.aload_n 0, 1) := by decide +kernel
theorem dX5_isTooLong_20 : decode cX5_isTooLong 20 = .ok (.getfield 28, 3) := by decide +kernel
theorem dX5_isTooLong_23 : decode cX5_isTooLong 23 = .ok (.if_icmp .le 7, 3) := by decide +kernel
theorem dX5_isTooLong_26 : decode cX5_isTooLong 26 = .ok (.iconst 1, 1) := by decide +kernel
theorem dX5_isTooLong_27 : decode cX5_isTooLong 27 = .ok (.goto 4, 3) := by decide +kernel
theorem dX5_isTooLong_30 : decode cX5_isTooLong 30 = .ok (.iconst 0, 1) := by decide +kernel
theorem dX5_isTooLong_31 : decode cX5_isTooLong 31 = .ok (.ireturn, 1) := by decide +kernel
theorem dX5_judge_0 : decode cX5_judge 0 = .ok (.aload_n 2, 1) := by decide +kernel
theorem dX5_judge_1 : decode cX5_judge 1 = .ok (.iload_n 1, 1) := by decide +kernel
theorem dX5_judge_2 : decode cX5_judge 2 = .ok (.invokevirtual 88, 3) := by decide +kernel
theorem dX5_judge_5 : decode cX5_judge 5 = .ok (.istore_n 3, 1) := by decide +kernel
theorem dX5_judge_6 : decode cX5_judge 6 = .ok (.aload_n 0, 1) := by decide +kernel
theorem dX5_judge_7 : decode cX5_judge 7 = .ok (.getfield 28, 3) := by decide +kernel
theorem dX5_judge_10 : decode cX5_judge 10 = .ok (.ifCond .eq 28, 3) := by decide +kernel
theorem dX5_judge_13 : decode cX5_judge 13 = .ok (.iload_n 1, 1) := by decide +kernel
theorem dX5_judge_14 : decode cX5_judge 14 = .ok (.aload_n 0, 1) := by decide +kernel
theorem dX5_judge_15 : decode cX5_judge 15 = .ok (.getfield 28, 3) := by decide +kernel
theorem dX5_judge_18 : decode cX5_judge 18 = .ok (.if_icmp .gt 19, 3) := by decide +kernel
theorem dX5_judge_21 : decode cX5_judge 21 = .ok (.iload_n 1, 1) := by decide +kernel
theorem dX5_judge_22 : decode cX5_judge 22 = .ok (.aload_n 0, 1) := by decide +kernel
theorem dX5_judge_23 : decode cX5_judge 23 = .ok (.getfield 28, 3) := by decide +kernel
theorem dX5_judge_26 : decode cX5_judge 26 = .ok (.if_icmp .ne 12, 3) := by decide +kernel
theorem dX5_judge_29 : decode cX5_judge 29 = .ok (.iload_n 3, 1) := by decide +kernel
theorem dX5_judge_30 : decode cX5_judge 30 = .ok (.aload_n 0, 1) := by decide +kernel
theorem dX5_judge_31 : decode cX5_judge 31 = .ok (.getfield 32, 3) := by decide +kernel
theorem dX5_judge_34 : decode cX5_judge 34 = .ok (.if_icmp .lt 4, 3) := by decide +kernel
theorem dX5_judge_37 : decode cX5_judge 37 = .ok (.return_, 1) := by decide +kernel
theorem dX5_judge_38 : decode cX5_judge 38 = .ok (.aload_n 0, 1) := by decide +kernel
theorem dX5_judge_39 : decode cX5_judge 39 = .ok (.iload_n 1, 1) := by decide +kernel
theorem dX5_judge_40 : decode cX5_judge 40 = .ok (.putfield 28, 3) := by decide +kernel
theorem dX5_judge_43 : decode cX5_judge 43 = .ok (.aload_n 0, 1) := by decide +kernel
theorem dX5_judge_44 : decode cX5_judge 44 = .ok (.iload_n 3, 1) := by decide +kernel
theorem dX5_judge_45 : decode cX5_judge 45 = .ok (.putfield 32, 3) := by decide +kernel
theorem dX5_judge_48 : decode cX5_judge 48 = .ok (.aload_n 0, 1) := by decide +kernel
theorem dX5_judge_49 : decode cX5_judge 49 = .ok (.getfield 21, 3) := by decide +kernel
theorem dX5_judge_52 : decode cX5_judge 52 = .ok (.iconst 0, 1) := by decide +kernel
theorem dX5_judge_53 : decode cX5_judge 53 = .ok (.aload_n 0, 1) := by decide +kernel
theorem dX5_judge_54 : decode cX5_judge 54 = .ok (.getfield 24, 3) := by decide +kernel
theorem dX5_judge_57 : decode cX5_judge 57 = .ok (.iconst 0, 1) := by decide +kernel
theorem dX5_judge_58 : decode cX5_judge 58 = .ok (.aload_n 0, 1) := by decide +kernel
theorem dX5_judge_59 : decode cX5_judge 59 = .ok (.getfield 39, 3) := by decide +kernel
theorem dX5_judge_62 : decode cX5_judge 62 = .ok (.invokestatic 91, 3) := by decide +kernel
theorem dX5_judge_65 : decode cX5_judge 65 = .ok (.return_, 1) := by decide +kernel
theorem dX6_init_0 : decode cX6_init 0 = .ok (.aload_n 0, 1) := by decide +kernel
theorem dX6_init_1 : decode cX6_init 1 = .ok (.invokespecial 3, 3) := by decide +kernel
theorem dX6_init_4 : decode cX6_init 4 = .ok (.aload_n 0, 1) := by decide +kernel
theorem dX6_init_5 : decode cX6_init 5 = .ok (.iconst 4, 1) := by decide +kernel
theorem dX6_init_6 : decode cX6_init 6 = .ok (.anewarray 9, 3) := by decide +kernel
theorem dX6_init_9 : decode cX6_init 9 = .ok (.putfield 11, 3) := by decide +kernel
theorem dX6_init_12 : decode cX6_init 12 = .ok (.aload_n 0, 1) := by decide +kernel
theorem dX6_init_13 : decode cX6_init 13 = .ok (.new 9, 3) := by decide +kernel
theorem dX6_init_16 : decode cX6_init 16 = .ok (.dup, 1) := by decide +kernel
theorem dX6_init_17 : decode cX6_init 17 = .ok (.iconst 3, 1) := by decide +kernel
theorem dX6_init_18 : decode cX6_init 18 = .ok (.invokespecial 17, 3) := by decide +kernel
theorem dX6_init_21 : decode cX6_init 21 = .ok (.putfield 20, 3) := by decide +kernel
theorem dX6_init_24 : decode cX6_init 24 = .ok (.aload_n 0, 1) := by decide +kernel
theorem dX6_init_25 : decode cX6_init 25 = .ok (.new 24, 3) := by decide +kernel
theorem dX6_init_28 : decode cX6_init 28 = .ok (.dup, 1) := by decide +kernel
theorem dX6_init_29 : decode cX6_init 29 = .ok (.invokespecial 26, 3) := by decide +kernel
theorem dX6_init_32 : decode cX6_init 32 = .ok (.putfield 27, 3) := by decide +kernel
theorem dX6_init_35 : decode cX6_init 35 = .ok (.iconst 0, 1) := by decide +kernel
theorem dX6_init_36 : decode cX6_init 36 = .ok (.istore_n 1, 1) := by decide +kernel
theorem dX6_init_37 : decode cX6_init 37 = .ok (.iload_n 1, 1) := by decide +kernel
theorem dX6_init_38 : decode cX6_init 38 = .ok (.iconst 3, 1) := by decide +kernel
theorem dX6_init_39 : decode cX6_init 39 = .ok (.if_icmp .ge 23, 3) := by decide +kernel
theorem dX6_init_42 : decode cX6_init 42 = .ok (.aload_n 0, 1) := by decide +kernel
theorem dX6_init_43 : decode cX6_init 43 = .ok (.getfield 11, 3) := by decide +kernel
theorem dX6_init_46 : decode cX6_init 46 = .ok (.iload_n 1, 1) := by decide +kernel
theorem dX6_init_47 : decode cX6_init 47 = .ok (.new 9, 3) := by decide +kernel
theorem dX6_init_50 : decode cX6_init 50 = .ok (.dup, 1) := by decide +kernel
theorem dX6_init_51 : decode cX6_init 51 = .ok (.iconst 1, 1) := by decide +kernel
theorem dX6_init_52 : decode cX6_init 52 = .ok (.invokespecial 17, 3) := by decide +kernel
theorem dX6_init_55 : decode cX6_init 55 = .ok (.aastore, 1) := by decide +kernel
theorem dX6_init_56 : decode cX6_init 56 = .ok (.iinc 1 1, 3) := by decide +kernel
theorem dX6_init_59 : decode cX6_init 59 = .ok (.goto (-22), 3) := by decide +kernel
theorem dX6_init_62 : decode cX6_init 62 = .ok (.aload_n 0, 1) := by decide +kernel
theorem dX6_init_63 : decode cX6_init 63 = .ok (.getfield 11, 3) := by decide +kernel
theorem dX6_init_66 : decode cX6_init 66 = .ok (.iconst 3, 1) := by decide +kernel
theorem dX6_init_67 : decode cX6_init 67 = .ok (.aload_n 0, 1) := by decide +kernel
theorem dX6_init_68 : decode cX6_init 68 = .ok (.getfield 20, 3) := by decide +kernel
theorem dX6_init_71 : decode cX6_init 71 = .ok (.aastore, 1) := by decide +kernel
theorem dX6_init_72 : decode cX6_init 72 = .ok (.return_, 1) := by decide +kernel
theorem dX6_copyFrom_0 : decode cX6_copyFrom 0 = .ok (.iconst 0, 1) := by decide +kernel
theorem dX6_copyFrom_1 : decode cX6_copyFrom 1 = .ok (.istore_n 2, 1) := by decide +kernel
theorem dX6_copyFrom_2 : decode cX6_copyFrom 2 = .ok (.iload_n 2, 1) := by decide +kernel
theorem dX6_copyFrom_3 : decode cX6_copyFrom 3 = .ok (.iconst 4, 1) := by decide +kernel
theorem dX6_copyFrom_4 : decode cX6_copyFrom 4 = .ok (.if_icmp .ge 24, 3) := by decide +kernel
theorem dX6_copyFrom_7 : decode cX6_copyFrom 7 = .ok (.aload_n 0, 1) := by decide +kernel
theorem dX6_copyFrom_8 : decode cX6_copyFrom 8 = .ok (.getfield 11, 3) := by decide +kernel
theorem dX6_copyFrom_11 : decode cX6_copyFrom 11 = .ok (.iload_n 2, 1) := by decide +kernel
theorem dX6_copyFrom_12 : decode cX6_copyFrom 12 = .ok (.aaload, 1) := by decide +kernel
theorem dX6_copyFrom_13 : decode cX6_copyFrom 13 = .ok (.aload_n 1, 1) := by decide +kernel
theorem dX6_copyFrom_14 : decode cX6_copyFrom 14 = .ok (.getfield 11, 3) := by decide +kernel
theorem dX6_copyFrom_17 : decode cX6_copyFrom 17 = .ok (.iload_n 2, 1) := by decide +kernel
theorem dX6_copyFrom_18 : decode cX6_copyFrom 18 = .ok (.aaload, 1) := by decide +kernel
theorem dX6_copyFrom_19 : decode cX6_copyFrom 19 = .ok (.invokevirtual 31, 3) := by decide +kernel
theorem dX6_copyFrom_22 : decode cX6_copyFrom 22 = .ok (.iinc 2 1, 3) := by decide +kernel
theorem dX6_copyFrom_25 : decode cX6_copyFrom 25 = .ok (.goto (-23), 3) := by decide +kernel
theorem dX6_copyFrom_28 : decode cX6_copyFrom 28 = .ok (.aload_n 0, 1) := by decide +kernel
theorem dX6_copyFrom_29 : decode cX6_copyFrom 29 = .ok (.getfield 27, 3) := by decide +kernel
theorem dX6_copyFrom_32 : decode cX6_copyFrom 32 = .ok (.aload_n 1, 1) := by decide +kernel
theorem dX6_copyFrom_33 : decode cX6_copyFrom 33 = .ok (.getfield 27, 3) := by decide +kernel
theorem dX6_copyFrom_36 : decode cX6_copyFrom 36 = .ok (.invokevirtual 35, 3) := by decide +kernel
theorem dX6_copyFrom_39 : decode cX6_copyFrom 39 = .ok (.aload_n 0, 1) := by decide +kernel
theorem dX6_copyFrom_40 : decode cX6_copyFrom 40 = .ok (.aload_n 1, 1) := by decide +kernel
theorem dX6_copyFrom_41 : decode cX6_copyFrom 41 = .ok (.getfield 38, 3) := by decide +kernel
theorem dX6_copyFrom_44 : decode cX6_copyFrom 44 = .ok (.putfield 38, 3) := by decide +kernel
theorem dX6_copyFrom_47 : decode cX6_copyFrom 47 = .ok (.return_, 1) := by decide +kernel
theorem dX6_workAt_0 : decode cX6_workAt 0 = .ok (.iconst 2, 1) := by decide +kernel
theorem dX6_workAt_1 : decode cX6_workAt 1 = .ok (.iload_n 0, 1) := by decide +kernel
theorem dX6_workAt_2 : decode cX6_workAt 2 = .ok (.invokestatic 42, 3) := by decide +kernel
theorem dX6_workAt_5 : decode cX6_workAt 5 = .ok (.iadd, 1) := by decide +kernel
theorem dX6_workAt_6 : decode cX6_workAt 6 = .ok (.ireturn, 1) := by decide +kernel
theorem dX6_bringIn_0 : decode cX6_bringIn 0 = .ok (.aload_n 0, 1) := by decide +kernel
theorem dX6_bringIn_1 : decode cX6_bringIn 1 = .ok (.getfield 11, 3) := by decide +kernel
theorem dX6_bringIn_4 : decode cX6_bringIn 4 = .ok (.iload_n 2, 1) := by decide +kernel
theorem dX6_bringIn_5 : decode cX6_bringIn 5 = .ok (.invokestatic 46, 3) := by decide +kernel
theorem dX6_bringIn_8 : decode cX6_bringIn 8 = .ok (.aaload, 1) := by decide +kernel
theorem dX6_bringIn_9 : decode cX6_bringIn 9 = .ok (.astore_n 3, 1) := by decide +kernel
theorem dX6_bringIn_10 : decode cX6_bringIn 10 = .ok (.aload_n 0, 1) := by decide +kernel
theorem dX6_bringIn_11 : decode cX6_bringIn 11 = .ok (.getfield 20, 3) := by decide +kernel
theorem dX6_bringIn_14 : decode cX6_bringIn 14 = .ok (.aload_n 0, 1) := by decide +kernel
theorem dX6_bringIn_15 : decode cX6_bringIn 15 = .ok (.getfield 38, 3) := by decide +kernel
theorem dX6_bringIn_18 : decode cX6_bringIn 18 = .ok (.invokevirtual 49, 3) := by decide +kernel
theorem dX6_bringIn_21 : decode cX6_bringIn 21 = .ok (.aload_n 3, 1) := by decide +kernel
theorem dX6_bringIn_22 : decode cX6_bringIn 22 = .ok (.aload_n 0, 1) := by decide +kernel
theorem dX6_bringIn_23 : decode cX6_bringIn 23 = .ok (.getfield 38, 3) := by decide +kernel
theorem dX6_bringIn_26 : decode cX6_bringIn 26 = .ok (.invokevirtual 49, 3) := by decide +kernel
theorem dX6_bringIn_29 : decode cX6_bringIn 29 = .ok (.invokestatic 52, 3) := by decide +kernel
theorem dX6_bringIn_32 : decode cX6_bringIn 32 = .ok (.istore 4, 2) := by decide +kernel
theorem dX6_bringIn_34 : decode cX6_bringIn 34 = .ok (.aload_n 0, 1) := by decide +kernel
theorem dX6_bringIn_35 : decode cX6_bringIn 35 = .ok (.getfield 20, 3) := by decide +kernel
theorem dX6_bringIn_38 : decode cX6_bringIn 38 = .ok (.iconst 0, 1) := by decide +kernel
theorem dX6_bringIn_39 : decode cX6_bringIn 39 = .ok (.invokevirtual 58, 3) := by decide +kernel
theorem dX6_bringIn_42 : decode cX6_bringIn 42 = .ok (.aload_n 0, 1) := by decide +kernel
theorem dX6_bringIn_43 : decode cX6_bringIn 43 = .ok (.getfield 20, 3) := by decide +kernel
theorem dX6_bringIn_46 : decode cX6_bringIn 46 = .ok (.iconst 2, 1) := by decide +kernel
theorem dX6_bringIn_47 : decode cX6_bringIn 47 = .ok (.invokevirtual 61, 3) := by decide +kernel
theorem dX6_bringIn_50 : decode cX6_bringIn 50 = .ok (.aload_n 0, 1) := by decide +kernel
theorem dX6_bringIn_51 : decode cX6_bringIn 51 = .ok (.getfield 20, 3) := by decide +kernel
theorem dX6_bringIn_54 : decode cX6_bringIn 54 = .ok (.iload_n 2, 1) := by decide +kernel
theorem dX6_bringIn_55 : decode cX6_bringIn 55 = .ok (.invokestatic 46, 3) := by decide +kernel
theorem dX6_bringIn_58 : decode cX6_bringIn 58 = .ok (.invokevirtual 58, 3) := by decide +kernel
theorem dX6_bringIn_61 : decode cX6_bringIn 61 = .ok (.aload_n 3, 1) := by decide +kernel
theorem dX6_bringIn_62 : decode cX6_bringIn 62 = .ok (.iconst 0, 1) := by decide +kernel
theorem dX6_bringIn_63 : decode cX6_bringIn 63 = .ok (.invokevirtual 58, 3) := by decide +kernel
theorem dX6_bringIn_66 : decode cX6_bringIn 66 = .ok (.aload_n 0, 1) := by decide +kernel
theorem dX6_bringIn_67 : decode cX6_bringIn 67 = .ok (.getfield 20, 3) := by decide +kernel
theorem dX6_bringIn_70 : decode cX6_bringIn 70 = .ok (.aload_n 3, 1) := by decide +kernel
theorem dX6_bringIn_71 : decode cX6_bringIn 71 = .ok (.invokevirtual 64, 3) := by decide +kernel
theorem dX6_bringIn_74 : decode cX6_bringIn 74 = .ok (.aload_n 3, 1) := by decide +kernel
theorem dX6_bringIn_75 : decode cX6_bringIn 75 = .ok (.iload_n 2, 1) := by decide +kernel
theorem dX6_bringIn_76 : decode cX6_bringIn 76 = .ok (.invokestatic 67, 3) := by decide +kernel
theorem dX6_bringIn_79 : decode cX6_bringIn 79 = .ok (.invokevirtual 58, 3) := by decide +kernel
theorem dX6_bringIn_82 : decode cX6_bringIn 82 = .ok (.aload_n 3, 1) := by decide +kernel
theorem dX6_bringIn_83 : decode cX6_bringIn 83 = .ok (.iload_n 2, 1) := by decide +kernel
theorem dX6_bringIn_84 : decode cX6_bringIn 84 = .ok (.invokestatic 70, 3) := by decide +kernel
theorem dX6_bringIn_87 : decode cX6_bringIn 87 = .ok (.invokevirtual 61, 3) := by decide +kernel
theorem dX6_bringIn_90 : decode cX6_bringIn 90 = .ok (.aload_n 0, 1) := by decide +kernel
theorem dX6_bringIn_91 : decode cX6_bringIn 91 = .ok (.getfield 20, 3) := by decide +kernel
theorem dX6_bringIn_94 : decode cX6_bringIn 94 = .ok (.invokevirtual 73, 3) := by decide +kernel
theorem dX6_bringIn_97 : decode cX6_bringIn 97 = .ok (.aload_n 3, 1) := by decide +kernel
theorem dX6_bringIn_98 : decode cX6_bringIn 98 = .ok (.invokevirtual 73, 3) := by decide +kernel
theorem dX6_bringIn_101 : decode cX6_bringIn 101 = .ok (.invokestatic 77, 3) := by decide +kernel
theorem dX6_bringIn_104 : decode cX6_bringIn 104 = .ok (.istore 5, 2) := by decide +kernel
theorem dX6_bringIn_106 : decode cX6_bringIn 106 = .ok (.aload_n 0, 1) := by decide +kernel
theorem dX6_bringIn_107 : decode cX6_bringIn 107 = .ok (.getfield 27, 3) := by decide +kernel
theorem dX6_bringIn_110 : decode cX6_bringIn 110 = .ok (.iload_n 1, 1) := by decide +kernel
theorem dX6_bringIn_111 : decode cX6_bringIn 111 = .ok (.iconst (-1), 1) := by decide +kernel
theorem dX6_bringIn_112 : decode cX6_bringIn 112 = .ok (.iload_n 2, 1) := by decide +kernel
theorem dX6_bringIn_113 : decode cX6_bringIn 113 = .ok (.iload 4, 2) := by decide +kernel
theorem dX6_bringIn_115 : decode cX6_bringIn 115 = .ok (.iload 5, 2) := by decide +kernel
theorem dX6_bringIn_117 : decode cX6_bringIn 117 = .ok (.invokevirtual 80, 3) := by decide +kernel
theorem dX6_bringIn_120 : decode cX6_bringIn 120 = .ok (.return_, 1) := by decide +kernel
theorem dX6_bringOut_0 : decode cX6_bringOut 0 = .ok (.aload_n 0, 1) := by decide +kernel
theorem dX6_bringOut_1 : decode cX6_bringOut 1 = .ok (.getfield 11, 3) := by decide +kernel
theorem dX6_bringOut_4 : decode cX6_bringOut 4 = .ok (.iload_n 2, 1) := by decide +kernel
theorem dX6_bringOut_5 : decode cX6_bringOut 5 = .ok (.invokestatic 46, 3) := by decide +kernel
theorem dX6_bringOut_8 : decode cX6_bringOut 8 = .ok (.aaload, 1) := by decide +kernel
theorem dX6_bringOut_9 : decode cX6_bringOut 9 = .ok (.astore_n 3, 1) := by decide +kernel
theorem dX6_bringOut_10 : decode cX6_bringOut 10 = .ok (.aload_n 0, 1) := by decide +kernel
theorem dX6_bringOut_11 : decode cX6_bringOut 11 = .ok (.getfield 20, 3) := by decide +kernel
theorem dX6_bringOut_14 : decode cX6_bringOut 14 = .ok (.aload_n 0, 1) := by decide +kernel
theorem dX6_bringOut_15 : decode cX6_bringOut 15 = .ok (.getfield 38, 3) := by decide +kernel
theorem dX6_bringOut_18 : decode cX6_bringOut 18 = .ok (.invokevirtual 49, 3) := by decide +kernel
theorem dX6_bringOut_21 : decode cX6_bringOut 21 = .ok (.aload_n 3, 1) := by decide +kernel
theorem dX6_bringOut_22 : decode cX6_bringOut 22 = .ok (.aload_n 0, 1) := by decide +kernel
theorem dX6_bringOut_23 : decode cX6_bringOut 23 = .ok (.getfield 38, 3) := by decide +kernel
theorem dX6_bringOut_26 : decode cX6_bringOut 26 = .ok (.invokevirtual 49, 3) := by decide +kernel
theorem dX6_bringOut_29 : decode cX6_bringOut 29 = .ok (.invokestatic 52, 3) := by decide +kernel
theorem dX6_bringOut_32 : decode cX6_bringOut 32 = .ok (.istore 4, 2) := by decide +kernel
theorem dX6_bringOut_34 : decode cX6_bringOut 34 = .ok (.aload_n 3, 1) := by decide +kernel
theorem dX6_bringOut_35 : decode cX6_bringOut 35 = .ok (.iload_n 2, 1) := by decide +kernel
theorem dX6_bringOut_36 : decode cX6_bringOut 36 = .ok (.invokestatic 67, 3) := by decide +kernel
theorem dX6_bringOut_39 : decode cX6_bringOut 39 = .ok (.invokevirtual 58, 3) := by decide +kernel
theorem dX6_bringOut_42 : decode cX6_bringOut 42 = .ok (.aload_n 3, 1) := by decide +kernel
theorem dX6_bringOut_43 : decode cX6_bringOut 43 = .ok (.iload_n 2, 1) := by decide +kernel
theorem dX6_bringOut_44 : decode cX6_bringOut 44 = .ok (.invokestatic 70, 3) := by decide +kernel
theorem dX6_bringOut_47 : decode cX6_bringOut 47 = .ok (.invokevirtual 61, 3) := by decide +kernel
theorem dX6_bringOut_50 : decode cX6_bringOut 50 = .ok (.aload_n 3, 1) := by decide +kernel
theorem dX6_bringOut_51 : decode cX6_bringOut 51 = .ok (.iconst 0, 1) := by decide +kernel
theorem dX6_bringOut_52 : decode cX6_bringOut 52 = .ok (.invokevirtual 58, 3) := by decide +kernel
theorem dX6_bringOut_55 : decode cX6_bringOut 55 = .ok (.aload_n 0, 1) := by decide +kernel
theorem dX6_bringOut_56 : decode cX6_bringOut 56 = .ok (.getfield 20, 3) := by decide +kernel
theorem dX6_bringOut_59 : decode cX6_bringOut 59 = .ok (.iload_n 2, 1) := by decide +kernel
theorem dX6_bringOut_60 : decode cX6_bringOut 60 = .ok (.invokestatic 46, 3) := by decide +kernel
theorem dX6_bringOut_63 : decode cX6_bringOut 63 = .ok (.invokevirtual 58, 3) := by decide +kernel
theorem dX6_bringOut_66 : decode cX6_bringOut 66 = .ok (.aload_n 3, 1) := by decide +kernel
theorem dX6_bringOut_67 : decode cX6_bringOut 67 = .ok (.aload_n 0, 1) := by decide +kernel
theorem dX6_bringOut_68 : decode cX6_bringOut 68 = .ok (.getfield 20, 3) := by decide +kernel
theorem dX6_bringOut_71 : decode cX6_bringOut 71 = .ok (.invokevirtual 64, 3) := by decide +kernel
theorem dX6_bringOut_74 : decode cX6_bringOut 74 = .ok (.aload_n 0, 1) := by decide +kernel
theorem dX6_bringOut_75 : decode cX6_bringOut 75 = .ok (.getfield 20, 3) := by decide +kernel
theorem dX6_bringOut_78 : decode cX6_bringOut 78 = .ok (.iconst 0, 1) := by decide +kernel
theorem dX6_bringOut_79 : decode cX6_bringOut 79 = .ok (.invokevirtual 58, 3) := by decide +kernel
theorem dX6_bringOut_82 : decode cX6_bringOut 82 = .ok (.aload_n 0, 1) := by decide +kernel
theorem dX6_bringOut_83 : decode cX6_bringOut 83 = .ok (.getfield 20, 3) := by decide +kernel
theorem dX6_bringOut_86 : decode cX6_bringOut 86 = .ok (.iconst 2, 1) := by decide +kernel
theorem dX6_bringOut_87 : decode cX6_bringOut 87 = .ok (.invokevirtual 61, 3) := by decide +kernel
theorem dX6_bringOut_90 : decode cX6_bringOut 90 = .ok (.aload_n 0, 1) := by decide +kernel
theorem dX6_bringOut_91 : decode cX6_bringOut 91 = .ok (.getfield 20, 3) := by decide +kernel
theorem dX6_bringOut_94 : decode cX6_bringOut 94 = .ok (.invokevirtual 73, 3) := by decide +kernel
theorem dX6_bringOut_97 : decode cX6_bringOut 97 = .ok (.aload_n 3, 1) := by decide +kernel
theorem dX6_bringOut_98 : decode cX6_bringOut 98 = .ok (.invokevirtual 73, 3) := by decide +kernel
theorem dX6_bringOut_101 : decode cX6_bringOut 101 = .ok (.invokestatic 77, 3) := by decide +kernel
theorem dX6_bringOut_104 : decode cX6_bringOut 104 = .ok (.istore 5, 2) := by decide +kernel
theorem dX6_bringOut_106 : decode cX6_bringOut 106 = .ok (.aload_n 0, 1) := by decide +kernel
theorem dX6_bringOut_107 : decode cX6_bringOut 107 = .ok (.getfield 27, 3) := by decide +kernel
theorem dX6_bringOut_110 : decode cX6_bringOut 110 = .ok (.iload_n 1, 1) := by decide +kernel
theorem dX6_bringOut_111 : decode cX6_bringOut 111 = .ok (.iload_n 2, 1) := by decide +kernel
theorem dX6_bringOut_112 : decode cX6_bringOut 112 = .ok (.iconst (-1), 1) := by decide +kernel
theorem dX6_bringOut_113 : decode cX6_bringOut 113 = .ok (.iload 4, 2) := by decide +kernel
theorem dX6_bringOut_115 : decode cX6_bringOut 115 = .ok (.iload 5, 2) := by decide +kernel
theorem dX6_bringOut_117 : decode cX6_bringOut 117 = .ok (.invokevirtual 80, 3) := by decide +kernel
theorem dX6_bringOut_120 : decode cX6_bringOut 120 = .ok (.return_, 1) := by decide +kernel
theorem dX6_moveOnLevel_0 : decode cX6_moveOnLevel 0 = .ok (.aload_n 0, 1) := by decide +kernel
theorem dX6_moveOnLevel_1 : decode cX6_moveOnLevel 1 = .ok (.getfield 11, 3) := by decide +kernel
theorem dX6_moveOnLevel_4 : decode cX6_moveOnLevel 4 = .ok (.iload_n 2, 1) := by decide +kernel
theorem dX6_moveOnLevel_5 : decode cX6_moveOnLevel 5 = .ok (.invokestatic 46, 3) := by decide +kernel
theorem dX6_moveOnLevel_8 : decode cX6_moveOnLevel 8 = .ok (.aaload, 1) := by decide +kernel
theorem dX6_moveOnLevel_9 : decode cX6_moveOnLevel 9 = .ok (.astore 4, 2) := by decide +kernel
theorem dX6_moveOnLevel_11 : decode cX6_moveOnLevel 11 = .ok (.aload 4, 2) := by decide +kernel
theorem dX6_moveOnLevel_13 : decode cX6_moveOnLevel 13 = .ok (.aload_n 0, 1) := by decide +kernel
theorem dX6_moveOnLevel_14 : decode cX6_moveOnLevel 14 = .ok (.getfield 38, 3) := by decide +kernel
theorem dX6_moveOnLevel_17 : decode cX6_moveOnLevel 17 = .ok (.invokevirtual 49, 3) := by decide +kernel
theorem dX6_moveOnLevel_20 : decode cX6_moveOnLevel 20 = .ok (.istore 5, 2) := by decide +kernel
theorem dX6_moveOnLevel_22 : decode cX6_moveOnLevel 22 = .ok (.aload 4, 2) := by decide +kernel
theorem dX6_moveOnLevel_24 : decode cX6_moveOnLevel 24 = .ok (.iload_n 2, 1) := by decide +kernel
theorem dX6_moveOnLevel_25 : decode cX6_moveOnLevel 25 = .ok (.invokestatic 67, 3) := by decide +kernel
theorem dX6_moveOnLevel_28 : decode cX6_moveOnLevel 28 = .ok (.invokevirtual 58, 3) := by decide +kernel
theorem dX6_moveOnLevel_31 : decode cX6_moveOnLevel 31 = .ok (.aload 4, 2) := by decide +kernel
theorem dX6_moveOnLevel_33 : decode cX6_moveOnLevel 33 = .ok (.iload_n 2, 1) := by decide +kernel
theorem dX6_moveOnLevel_34 : decode cX6_moveOnLevel 34 = .ok (.invokestatic 70, 3) := by decide +kernel
theorem dX6_moveOnLevel_37 : decode cX6_moveOnLevel 37 = .ok (.invokevirtual 61, 3) := by decide +kernel
theorem dX6_moveOnLevel_40 : decode cX6_moveOnLevel 40 = .ok (.aload 4, 2) := by decide +kernel
theorem dX6_moveOnLevel_42 : decode cX6_moveOnLevel 42 = .ok (.iload_n 3, 1) := by decide +kernel
theorem dX6_moveOnLevel_43 : decode cX6_moveOnLevel 43 = .ok (.invokestatic 67, 3) := by decide +kernel
theorem dX6_moveOnLevel_46 : decode cX6_moveOnLevel 46 = .ok (.invokevirtual 58, 3) := by decide +kernel
theorem dX6_moveOnLevel_49 : decode cX6_moveOnLevel 49 = .ok (.aload 4, 2) := by decide +kernel
theorem dX6_moveOnLevel_51 : decode cX6_moveOnLevel 51 = .ok (.iload_n 3, 1) := by decide +kernel
theorem dX6_moveOnLevel_52 : decode cX6_moveOnLevel 52 = .ok (.invokestatic 70, 3) := by decide +kernel
theorem dX6_moveOnLevel_55 : decode cX6_moveOnLevel 55 = .ok (.invokevirtual 61, 3) := by decide +kernel
theorem dX6_moveOnLevel_58 : decode cX6_moveOnLevel 58 = .ok (.aload_n 0, 1) := by decide +kernel
theorem dX6_moveOnLevel_59 : decode cX6_moveOnLevel 59 = .ok (.getfield 27, 3) := by decide +kernel
theorem dX6_moveOnLevel_62 : decode cX6_moveOnLevel 62 = .ok (.iload_n 1, 1) := by decide +kernel
theorem dX6_moveOnLevel_63 : decode cX6_moveOnLevel 63 = .ok (.iload_n 2, 1) := by decide +kernel
theorem dX6_moveOnLevel_64 : decode cX6_moveOnLevel 64 = .ok (.iload_n 3, 1) := by decide +kernel
theorem dX6_moveOnLevel_65 : decode cX6_moveOnLevel 65 = .ok (.iload 5, 2) := by decide +kernel
theorem dX6_moveOnLevel_67 : decode cX6_moveOnLevel 67 = .ok (.aload 4, 2) := by decide +kernel
theorem dX6_moveOnLevel_69 : decode cX6_moveOnLevel 69 = .ok (.invokevirtual 73, 3) := by decide +kernel
theorem dX6_moveOnLevel_72 : decode cX6_moveOnLevel 72 = .ok (.invokevirtual 80, 3) := by decide +kernel
theorem dX6_moveOnLevel_75 : decode cX6_moveOnLevel 75 = .ok (.return_, 1) := by decide +kernel
theorem dX6_moveToOtherLevel_0 : decode cX6_moveToOtherLevel 0 = .ok (.aload_n 0, 1) := by decide +kernel
theorem dX6_moveToOtherLevel_1 : decode cX6_moveToOtherLevel 1 = .ok (.getfield 11, 3) := by decide +kernel
theorem dX6_moveToOtherLevel_4 : decode cX6_moveToOtherLevel 4 = .ok (.iload_n 2, 1) := by decide +kernel
theorem dX6_moveToOtherLevel_5 : decode cX6_moveToOtherLevel 5 = .ok (.invokestatic 46, 3) := by decide +kernel
theorem dX6_moveToOtherLevel_8 : decode cX6_moveToOtherLevel 8 = .ok (.aaload, 1) := by decide +kernel
theorem dX6_moveToOtherLevel_9 : decode cX6_moveToOtherLevel 9 = .ok (.astore 4, 2) := by decide +kernel
theorem dX6_moveToOtherLevel_11 : decode cX6_moveToOtherLevel 11 = .ok (.aload_n 0, 1) := by decide +kernel
theorem dX6_moveToOtherLevel_12 : decode cX6_moveToOtherLevel 12 = .ok (.getfield 11, 3) := by decide +kernel
theorem dX6_moveToOtherLevel_15 : decode cX6_moveToOtherLevel 15 = .ok (.iload_n 3, 1) := by decide +kernel
theorem dX6_moveToOtherLevel_16 : decode cX6_moveToOtherLevel 16 = .ok (.invokestatic 46, 3) := by decide +kernel
theorem dX6_moveToOtherLevel_19 : decode cX6_moveToOtherLevel 19 = .ok (.aaload, 1) := by decide +kernel
theorem dX6_moveToOtherLevel_20 : decode cX6_moveToOtherLevel 20 = .ok (.astore 5, 2) := by decide +kernel
theorem dX6_moveToOtherLevel_22 : decode cX6_moveToOtherLevel 22 = .ok (.aload_n 0, 1) := by decide +kernel
theorem dX6_moveToOtherLevel_23 : decode cX6_moveToOtherLevel 23 = .ok (.getfield 20, 3) := by decide +kernel
theorem dX6_moveToOtherLevel_26 : decode cX6_moveToOtherLevel 26 = .ok (.aload_n 0, 1) := by decide +kernel
theorem dX6_moveToOtherLevel_27 : decode cX6_moveToOtherLevel 27 = .ok (.getfield 38, 3) := by decide +kernel
theorem dX6_moveToOtherLevel_30 : decode cX6_moveToOtherLevel 30 = .ok (.invokevirtual 49, 3) := by decide +kernel
theorem dX6_moveToOtherLevel_33 : decode cX6_moveToOtherLevel 33 = .ok (.aload 4, 2) := by decide +kernel
theorem dX6_moveToOtherLevel_35 : decode cX6_moveToOtherLevel 35 = .ok (.aload_n 0, 1) := by decide +kernel
theorem dX6_moveToOtherLevel_36 : decode cX6_moveToOtherLevel 36 = .ok (.getfield 38, 3) := by decide +kernel
theorem dX6_moveToOtherLevel_39 : decode cX6_moveToOtherLevel 39 = .ok (.invokevirtual 49, 3) := by decide +kernel
theorem dX6_moveToOtherLevel_42 : decode cX6_moveToOtherLevel 42 = .ok (.aload 5, 2) := by decide +kernel
theorem dX6_moveToOtherLevel_44 : decode cX6_moveToOtherLevel 44 = .ok (.aload_n 0, 1) := by decide +kernel
theorem dX6_moveToOtherLevel_45 : decode cX6_moveToOtherLevel 45 = .ok (.getfield 38, 3) := by decide +kernel
theorem dX6_moveToOtherLevel_48 : decode cX6_moveToOtherLevel 48 = .ok (.invokevirtual 49, 3) := by decide +kernel
theorem dX6_moveToOtherLevel_51 : decode cX6_moveToOtherLevel 51 = .ok (.invokestatic 52, 3) := by decide +kernel
theorem dX6_moveToOtherLevel_54 : decode cX6_moveToOtherLevel 54 = .ok (.invokestatic 52, 3) := by decide +kernel
theorem dX6_moveToOtherLevel_57 : decode cX6_moveToOtherLevel 57 = .ok (.istore 6, 2) := by decide +kernel
theorem dX6_moveToOtherLevel_59 : decode cX6_moveToOtherLevel 59 = .ok (.aload 4, 2) := by decide +kernel
theorem dX6_moveToOtherLevel_61 : decode cX6_moveToOtherLevel 61 = .ok (.iload_n 2, 1) := by decide +kernel
theorem dX6_moveToOtherLevel_62 : decode cX6_moveToOtherLevel 62 = .ok (.invokestatic 67, 3) := by decide +kernel
theorem dX6_moveToOtherLevel_65 : decode cX6_moveToOtherLevel 65 = .ok (.invokevirtual 58, 3) := by decide +kernel
theorem dX6_moveToOtherLevel_68 : decode cX6_moveToOtherLevel 68 = .ok (.aload 4, 2) := by decide +kernel
theorem dX6_moveToOtherLevel_70 : decode cX6_moveToOtherLevel 70 = .ok (.iload_n 2, 1) := by decide +kernel
theorem dX6_moveToOtherLevel_71 : decode cX6_moveToOtherLevel 71 = .ok (.invokestatic 70, 3) := by decide +kernel
theorem dX6_moveToOtherLevel_74 : decode cX6_moveToOtherLevel 74 = .ok (.invokevirtual 61, 3) := by decide +kernel
theorem dX6_moveToOtherLevel_77 : decode cX6_moveToOtherLevel 77 = .ok (.aload 4, 2) := by decide +kernel
theorem dX6_moveToOtherLevel_79 : decode cX6_moveToOtherLevel 79 = .ok (.iconst 0, 1) := by decide +kernel
theorem dX6_moveToOtherLevel_80 : decode cX6_moveToOtherLevel 80 = .ok (.invokevirtual 58, 3) := by decide +kernel
theorem dX6_moveToOtherLevel_83 : decode cX6_moveToOtherLevel 83 = .ok (.aload_n 0, 1) := by decide +kernel
theorem dX6_moveToOtherLevel_84 : decode cX6_moveToOtherLevel 84 = .ok (.getfield 20, 3) := by decide +kernel
theorem dX6_moveToOtherLevel_87 : decode cX6_moveToOtherLevel 87 = .ok (.iload_n 2, 1) := by decide +kernel
theorem dX6_moveToOtherLevel_88 : decode cX6_moveToOtherLevel 88 = .ok (.invokestatic 46, 3) := by decide +kernel
theorem dX6_moveToOtherLevel_91 : decode cX6_moveToOtherLevel 91 = .ok (.invokevirtual 58, 3) := by decide +kernel
theorem dX6_moveToOtherLevel_94 : decode cX6_moveToOtherLevel 94 = .ok (.aload 4, 2) := by decide +kernel
theorem dX6_moveToOtherLevel_96 : decode cX6_moveToOtherLevel 96 = .ok (.aload_n 0, 1) := by decide +kernel
theorem dX6_moveToOtherLevel_97 : decode cX6_moveToOtherLevel 97 = .ok (.getfield 20, 3) := by decide +kernel
theorem dX6_moveToOtherLevel_100 : decode cX6_moveToOtherLevel 100 = .ok (.invokevirtual 64, 3) := by decide +kernel
theorem dX6_moveToOtherLevel_103 : decode cX6_moveToOtherLevel 103 = .ok (.aload_n 0, 1) := by decide +kernel
theorem dX6_moveToOtherLevel_104 : decode cX6_moveToOtherLevel 104 = .ok (.getfield 20, 3) := by decide +kernel
theorem dX6_moveToOtherLevel_107 : decode cX6_moveToOtherLevel 107 = .ok (.iload_n 3, 1) := by decide +kernel
theorem dX6_moveToOtherLevel_108 : decode cX6_moveToOtherLevel 108 = .ok (.invokestatic 46, 3) := by decide +kernel
theorem dX6_moveToOtherLevel_111 : decode cX6_moveToOtherLevel 111 = .ok (.invokevirtual 58, 3) := by decide +kernel
theorem dX6_moveToOtherLevel_114 : decode cX6_moveToOtherLevel 114 = .ok (.aload 5, 2) := by decide +kernel
theorem dX6_moveToOtherLevel_116 : decode cX6_moveToOtherLevel 116 = .ok (.iconst 0, 1) := by decide +kernel
theorem dX6_moveToOtherLevel_117 : decode cX6_moveToOtherLevel 117 = .ok (.invokevirtual 58, 3) := by decide +kernel
theorem dX6_moveToOtherLevel_120 : decode cX6_moveToOtherLevel 120 = .ok (.aload_n 0, 1) := by decide +kernel
theorem dX6_moveToOtherLevel_121 : decode cX6_moveToOtherLevel 121 = .ok (.getfield 20, 3) := by decide +kernel
theorem dX6_moveToOtherLevel_124 : decode cX6_moveToOtherLevel 124 = .ok (.aload 5, 2) := by decide +kernel
theorem dX6_moveToOtherLevel_126 : decode cX6_moveToOtherLevel 126 = .ok (.invokevirtual 64, 3) := by decide +kernel
theorem dX6_moveToOtherLevel_129 : decode cX6_moveToOtherLevel 129 = .ok (.aload 5, 2) := by decide +kernel
theorem dX6_moveToOtherLevel_131 : decode cX6_moveToOtherLevel 131 = .ok (.iload_n 3, 1) := by decide +kernel
theorem dX6_moveToOtherLevel_132 : decode cX6_moveToOtherLevel 132 = .ok (.invokestatic 67, 3) := by decide +kernel
theorem dX6_moveToOtherLevel_135 : decode cX6_moveToOtherLevel 135 = .ok (.invokevirtual 58, 3) := by decide +kernel
theorem dX6_moveToOtherLevel_138 : decode cX6_moveToOtherLevel 138 = .ok (.aload 5, 2) := by decide +kernel
theorem dX6_moveToOtherLevel_140 : decode cX6_moveToOtherLevel 140 = .ok (.iload_n 3, 1) := by decide +kernel
theorem dX6_moveToOtherLevel_141 : decode cX6_moveToOtherLevel 141 = .ok (.invokestatic 70, 3) := by decide +kernel
theorem dX6_moveToOtherLevel_144 : decode cX6_moveToOtherLevel 144 = .ok (.invokevirtual 61, 3) := by decide +kernel
theorem dX6_moveToOtherLevel_147 : decode cX6_moveToOtherLevel 147 = .ok (.aload_n 0, 1) := by decide +kernel
theorem dX6_moveToOtherLevel_148 : decode cX6_moveToOtherLevel 148 = .ok (.getfield 20, 3) := by decide +kernel
theorem dX6_moveToOtherLevel_151 : decode cX6_moveToOtherLevel 151 = .ok (.invokevirtual 73, 3) := by decide +kernel
theorem dX6_moveToOtherLevel_154 : decode cX6_moveToOtherLevel 154 = .ok (.aload 4, 2) := by decide +kernel
theorem dX6_moveToOtherLevel_156 : decode cX6_moveToOtherLevel 156 = .ok (.invokevirtual 73, 3) := by decide +kernel
theorem dX6_moveToOtherLevel_159 : decode cX6_moveToOtherLevel 159 = .ok (.aload 5, 2) := by decide +kernel
theorem dX6_moveToOtherLevel_161 : decode cX6_moveToOtherLevel 161 = .ok (.invokevirtual 73, 3) := by decide +kernel
theorem dX6_moveToOtherLevel_164 : decode cX6_moveToOtherLevel 164 = .ok (.invokestatic 77, 3) := by decide +kernel
theorem dX6_moveToOtherLevel_167 : decode cX6_moveToOtherLevel 167 = .ok (.invokestatic 77, 3) := by decide +kernel
theorem dX6_moveToOtherLevel_170 : decode cX6_moveToOtherLevel 170 = .ok (.istore 7, 2) := by decide +kernel
theorem dX6_moveToOtherLevel_172 : decode cX6_moveToOtherLevel 172 = .ok (.aload_n 0, 1) := by decide +kernel
theorem dX6_moveToOtherLevel_173 : decode cX6_moveToOtherLevel 173 = .ok (.getfield 27, 3) := by decide +kernel
theorem dX6_moveToOtherLevel_176 : decode cX6_moveToOtherLevel 176 = .ok (.iload_n 1, 1) := by decide +kernel
theorem dX6_moveToOtherLevel_177 : decode cX6_moveToOtherLevel 177 = .ok (.iload_n 2, 1) := by decide +kernel
theorem dX6_moveToOtherLevel_178 : decode cX6_moveToOtherLevel 178 = .ok (.iload_n 3, 1) := by decide +kernel
theorem dX6_moveToOtherLevel_179 : decode cX6_moveToOtherLevel 179 = .ok (.iload 6, 2) := by decide +kernel
theorem dX6_moveToOtherLevel_181 : decode cX6_moveToOtherLevel 181 = .ok (.iload 7, 2) := by decide +kernel
theorem dX6_moveToOtherLevel_183 : decode cX6_moveToOtherLevel 183 = .ok (.invokevirtual 80, 3) := by decide +kernel
theorem dX6_moveToOtherLevel_186 : decode cX6_moveToOtherLevel 186 = .ok (.return_, 1) := by decide +kernel
theorem dX7_init_0 : decode cX7_init 0 = .ok (.aload_n 0, 1) := by decide +kernel
theorem dX7_init_1 : decode cX7_init 1 = .ok (.invokespecial 3, 3) := by decide +kernel
theorem dX7_init_4 : decode cX7_init 4 = .ok (.aload_n 0, 1) := by decide +kernel
theorem dX7_init_5 : decode cX7_init 5 = .ok (.new 9, 3) := by decide +kernel
theorem dX7_init_8 : decode cX7_init 8 = .ok (.dup, 1) := by decide +kernel
theorem dX7_init_9 : decode cX7_init 9 = .ok (.invokespecial 11, 3) := by decide +kernel
theorem dX7_init_12 : decode cX7_init 12 = .ok (.putfield 12, 3) := by decide +kernel
theorem dX7_init_15 : decode cX7_init 15 = .ok (.aload_n 0, 1) := by decide +kernel
theorem dX7_init_16 : decode cX7_init 16 = .ok (.new 9, 3) := by decide +kernel
theorem dX7_init_19 : decode cX7_init 19 = .ok (.dup, 1) := by decide +kernel
theorem dX7_init_20 : decode cX7_init 20 = .ok (.invokespecial 11, 3) := by decide +kernel
theorem dX7_init_23 : decode cX7_init 23 = .ok (.putfield 16, 3) := by decide +kernel
theorem dX7_init_26 : decode cX7_init 26 = .ok (.aload_n 0, 1) := by decide +kernel
theorem dX7_init_27 : decode cX7_init 27 = .ok (.new 19, 3) := by decide +kernel
theorem dX7_init_30 : decode cX7_init 30 = .ok (.dup, 1) := by decide +kernel
theorem dX7_init_31 : decode cX7_init 31 = .ok (.invokespecial 21, 3) := by decide +kernel
theorem dX7_init_34 : decode cX7_init 34 = .ok (.putfield 22, 3) := by decide +kernel
theorem dX7_init_37 : decode cX7_init 37 = .ok (.aload_n 0, 1) := by decide +kernel
theorem dX7_init_38 : decode cX7_init 38 = .ok (.new 26, 3) := by decide +kernel
theorem dX7_init_41 : decode cX7_init 41 = .ok (.dup, 1) := by decide +kernel
theorem dX7_init_42 : decode cX7_init 42 = .ok (.invokespecial 28, 3) := by decide +kernel
theorem dX7_init_45 : decode cX7_init 45 = .ok (.putfield 29, 3) := by decide +kernel
theorem dX7_init_48 : decode cX7_init 48 = .ok (.aload_n 0, 1) := by decide +kernel
theorem dX7_init_49 : decode cX7_init 49 = .ok (.new 33, 3) := by decide +kernel
theorem dX7_init_52 : decode cX7_init 52 = .ok (.dup, 1) := by decide +kernel
theorem dX7_init_53 : decode cX7_init 53 = .ok (.invokespecial 35, 3) := by decide +kernel
theorem dX7_init_56 : decode cX7_init 56 = .ok (.putfield 36, 3) := by decide +kernel
theorem dX7_init_59 : decode cX7_init 59 = .ok (.aload_n 0, 1) := by decide +kernel
theorem dX7_init_60 : decode cX7_init 60 = .ok (.iconst 3, 1) := by decide +kernel
theorem dX7_init_61 : decode cX7_init 61 = .ok (.newarray .int, 2) := by decide +kernel
theorem dX7_init_63 : decode cX7_init 63 = .ok (.putfield 40, 3) := by decide +kernel
theorem dX7_init_66 : decode cX7_init 66 = .ok (.return_, 1) := by decide +kernel
theorem dX7_store_0 : decode cX7_store 0 = .ok (.aload_n 0, 1) := by decide +kernel
theorem dX7_store_1 : decode cX7_store 1 = .ok (.iload_n 1, 1) := by decide +kernel
theorem dX7_store_2 : decode cX7_store 2 = .ok (.iload_n 2, 1) := by decide +kernel
theorem dX7_store_3 : decode cX7_store 3 = .ok (.invokevirtual 44, 3) := by decide +kernel
theorem dX7_store_6 : decode cX7_store 6 = .ok (.aload_n 0, 1) := by decide +kernel
theorem dX7_store_7 : decode cX7_store 7 = .ok (.getfield 12, 3) := by decide +kernel
theorem dX7_store_10 : decode cX7_store 10 = .ok (.invokevirtual 48, 3) := by decide +kernel
theorem dX7_store_13 : decode cX7_store 13 = .ok (.ifCond .eq 13, 3) := by decide +kernel
theorem dX7_store_16 : decode cX7_store 16 = .ok (.new 52, 3) := by decide +kernel
theorem dX7_store_19 : decode cX7_store 19 = .ok (.dup, 1) := by decide +kernel
theorem dX7_store_20 : decode cX7_store 20 = .ok (.ldc 54, 2) := by decide +kernel
theorem dX7_store_22 : decode cX7_store 22 = .ok (.invokespecial 56, 3) := by decide +kernel
theorem dX7_store_25 : decode cX7_store 25 = .ok (.athrow, 1) := by decide +kernel
theorem dX7_store_26 : decode cX7_store 26 = .ok (.aload_n 0, 1) := by decide +kernel
theorem dX7_store_27 : decode cX7_store 27 = .ok (.getfield 22, 3) := by decide +kernel
theorem dX7_store_30 : decode cX7_store 30 = .ok (.aload_n 0, 1) := by decide +kernel
theorem dX7_store_31 : decode cX7_store 31 = .ok (.getfield 12, 3) := by decide +kernel
theorem dX7_store_34 : decode cX7_store 34 = .ok (.invokevirtual 59, 3) := by decide +kernel
theorem dX7_store_37 : decode cX7_store 37 = .ok (.aload_n 0, 1) := by decide +kernel
theorem dX7_store_38 : decode cX7_store 38 = .ok (.getfield 12, 3) := by decide +kernel
theorem dX7_store_41 : decode cX7_store 41 = .ok (.iload_n 1, 1) := by decide +kernel
theorem dX7_store_42 : decode cX7_store 42 = .ok (.iload_n 2, 1) := by decide +kernel
theorem dX7_store_43 : decode cX7_store 43 = .ok (.invokevirtual 63, 3) := by decide +kernel
theorem dX7_store_46 : decode cX7_store 46 = .ok (.istore_n 3, 1) := by decide +kernel
theorem dX7_store_47 : decode cX7_store 47 = .ok (.iload_n 3, 1) := by decide +kernel
theorem dX7_store_48 : decode cX7_store 48 = .ok (.iconst (-1), 1) := by decide +kernel
theorem dX7_store_49 : decode cX7_store 49 = .ok (.if_icmp .ne 13, 3) := by decide +kernel
theorem dX7_store_52 : decode cX7_store 52 = .ok (.new 67, 3) := by decide +kernel
theorem dX7_store_55 : decode cX7_store 55 = .ok (.dup, 1) := by decide +kernel
theorem dX7_store_56 : decode cX7_store 56 = .ok (.ldc 69, 2) := by decide +kernel
theorem dX7_store_58 : decode cX7_store 58 = .ok (.invokespecial 71, 3) := by decide +kernel
theorem dX7_store_61 : decode cX7_store 61 = .ok (.athrow, 1) := by decide +kernel
theorem dX7_store_62 : decode cX7_store 62 = .ok (.aload_n 0, 1) := by decide +kernel
theorem dX7_store_63 : decode cX7_store 63 = .ok (.getfield 22, 3) := by decide +kernel
theorem dX7_store_66 : decode cX7_store 66 = .ok (.invokevirtual 72, 3) := by decide +kernel
theorem dX7_store_69 : decode cX7_store 69 = .ok (.iload_n 3, 1) := by decide +kernel
theorem dX7_store_70 : decode cX7_store 70 = .ok (.ireturn, 1) := by decide +kernel
theorem dX7_retrieve_0 : decode cX7_retrieve 0 = .ok (.aload_n 0, 1) := by decide +kernel
theorem dX7_retrieve_1 : decode cX7_retrieve 1 = .ok (.iload_n 1, 1) := by decide +kernel
theorem dX7_retrieve_2 : decode cX7_retrieve 2 = .ok (.invokevirtual 75, 3) := by decide +kernel
theorem dX7_retrieve_5 : decode cX7_retrieve 5 = .ok (.aload_n 0, 1) := by decide +kernel
theorem dX7_retrieve_6 : decode cX7_retrieve 6 = .ok (.getfield 22, 3) := by decide +kernel
theorem dX7_retrieve_9 : decode cX7_retrieve 9 = .ok (.aload_n 0, 1) := by decide +kernel
theorem dX7_retrieve_10 : decode cX7_retrieve 10 = .ok (.getfield 12, 3) := by decide +kernel
theorem dX7_retrieve_13 : decode cX7_retrieve 13 = .ok (.invokevirtual 59, 3) := by decide +kernel
theorem dX7_retrieve_16 : decode cX7_retrieve 16 = .ok (.aload_n 0, 1) := by decide +kernel
theorem dX7_retrieve_17 : decode cX7_retrieve 17 = .ok (.iload_n 1, 1) := by decide +kernel
theorem dX7_retrieve_18 : decode cX7_retrieve 18 = .ok (.invokevirtual 79, 3) := by decide +kernel
theorem dX7_retrieve_21 : decode cX7_retrieve 21 = .ok (.istore_n 2, 1) := by decide +kernel
theorem dX7_retrieve_22 : decode cX7_retrieve 22 = .ok (.iload_n 2, 1) := by decide +kernel
theorem dX7_retrieve_23 : decode cX7_retrieve 23 = .ok (.ifCond .ne 13, 3) := by decide +kernel
theorem dX7_retrieve_26 : decode cX7_retrieve 26 = .ok (.new 67, 3) := by decide +kernel
theorem dX7_retrieve_29 : decode cX7_retrieve 29 = .ok (.dup, 1) := by decide +kernel
theorem dX7_retrieve_30 : decode cX7_retrieve 30 = .ok (.ldc 83, 2) := by decide +kernel
theorem dX7_retrieve_32 : decode cX7_retrieve 32 = .ok (.invokespecial 71, 3) := by decide +kernel
theorem dX7_retrieve_35 : decode cX7_retrieve 35 = .ok (.athrow, 1) := by decide +kernel
theorem dX7_retrieve_36 : decode cX7_retrieve 36 = .ok (.aload_n 0, 1) := by decide +kernel
theorem dX7_retrieve_37 : decode cX7_retrieve 37 = .ok (.getfield 22, 3) := by decide +kernel
theorem dX7_retrieve_40 : decode cX7_retrieve 40 = .ok (.invokevirtual 72, 3) := by decide +kernel
theorem dX7_retrieve_43 : decode cX7_retrieve 43 = .ok (.iload_n 2, 1) := by decide +kernel
theorem dX7_retrieve_44 : decode cX7_retrieve 44 = .ok (.ireturn, 1) := by decide +kernel
theorem dX7_book_0 : decode cX7_book 0 = .ok (.aload_n 0, 1) := by decide +kernel
theorem dX7_book_1 : decode cX7_book 1 = .ok (.iload_n 1, 1) := by decide +kernel
theorem dX7_book_2 : decode cX7_book 2 = .ok (.invokevirtual 75, 3) := by decide +kernel
theorem dX7_book_5 : decode cX7_book 5 = .ok (.aload_n 0, 1) := by decide +kernel
theorem dX7_book_6 : decode cX7_book 6 = .ok (.iload_n 2, 1) := by decide +kernel
theorem dX7_book_7 : decode cX7_book 7 = .ok (.invokevirtual 85, 3) := by decide +kernel
theorem dX7_book_10 : decode cX7_book 10 = .ok (.aload_n 0, 1) := by decide +kernel
theorem dX7_book_11 : decode cX7_book 11 = .ok (.getfield 22, 3) := by decide +kernel
theorem dX7_book_14 : decode cX7_book 14 = .ok (.aload_n 0, 1) := by decide +kernel
theorem dX7_book_15 : decode cX7_book 15 = .ok (.getfield 12, 3) := by decide +kernel
theorem dX7_book_18 : decode cX7_book 18 = .ok (.invokevirtual 59, 3) := by decide +kernel
theorem dX7_book_21 : decode cX7_book 21 = .ok (.aload_n 0, 1) := by decide +kernel
theorem dX7_book_22 : decode cX7_book 22 = .ok (.getfield 12, 3) := by decide +kernel
theorem dX7_book_25 : decode cX7_book 25 = .ok (.iload_n 1, 1) := by decide +kernel
theorem dX7_book_26 : decode cX7_book 26 = .ok (.iload_n 2, 1) := by decide +kernel
theorem dX7_book_27 : decode cX7_book 27 = .ok (.invokevirtual 88, 3) := by decide +kernel
theorem dX7_book_30 : decode cX7_book 30 = .ok (.istore_n 3, 1) := by decide +kernel
theorem dX7_book_31 : decode cX7_book 31 = .ok (.aload_n 0, 1) := by decide +kernel
theorem dX7_book_32 : decode cX7_book 32 = .ok (.getfield 22, 3) := by decide +kernel
theorem dX7_book_35 : decode cX7_book 35 = .ok (.invokevirtual 72, 3) := by decide +kernel
theorem dX7_book_38 : decode cX7_book 38 = .ok (.iload_n 3, 1) := by decide +kernel
theorem dX7_book_39 : decode cX7_book 39 = .ok (.ireturn, 1) := by decide +kernel
theorem dX7_car_0 : decode cX7_car 0 = .ok (.aload_n 0, 1) := by decide +kernel
theorem dX7_car_1 : decode cX7_car 1 = .ok (.iload_n 1, 1) := by decide +kernel
theorem dX7_car_2 : decode cX7_car 2 = .ok (.invokevirtual 75, 3) := by decide +kernel
theorem dX7_car_5 : decode cX7_car 5 = .ok (.iload_n 2, 1) := by decide +kernel
theorem dX7_car_6 : decode cX7_car 6 = .ok (.tableswitch 79 0 4 #[34, 43, 52, 61, 70], 34) := by decide +kernel
theorem dX7_car_40 : decode cX7_car 40 = .ok (.aload_n 0, 1) := by decide +kernel
theorem dX7_car_41 : decode cX7_car 41 = .ok (.getfield 12, 3) := by decide +kernel
theorem dX7_car_44 : decode cX7_car 44 = .ok (.iload_n 1, 1) := by decide +kernel
theorem dX7_car_45 : decode cX7_car 45 = .ok (.invokevirtual 91, 3) := by decide +kernel
theorem dX7_car_48 : decode cX7_car 48 = .ok (.ireturn, 1) := by decide +kernel
theorem dX7_car_49 : decode cX7_car 49 = .ok (.aload_n 0, 1) := by decide +kernel
theorem dX7_car_50 : decode cX7_car 50 = .ok (.getfield 12, 3) := by decide +kernel
theorem dX7_car_53 : decode cX7_car 53 = .ok (.iload_n 1, 1) := by decide +kernel
theorem dX7_car_54 : decode cX7_car 54 = .ok (.invokevirtual 94, 3) := by decide +kernel
theorem dX7_car_57 : decode cX7_car 57 = .ok (.ireturn, 1) := by decide +kernel
theorem dX7_car_58 : decode cX7_car 58 = .ok (.aload_n 0, 1) := by decide +kernel
theorem dX7_car_59 : decode cX7_car 59 = .ok (.getfield 12, 3) := by decide +kernel
theorem dX7_car_62 : decode cX7_car 62 = .ok (.iload_n 1, 1) := by decide +kernel
theorem dX7_car_63 : decode cX7_car 63 = .ok (.invokevirtual 97, 3) := by decide +kernel
theorem dX7_car_66 : decode cX7_car 66 = .ok (.ireturn, 1) := by decide +kernel
theorem dX7_car_67 : decode cX7_car 67 = .ok (.aload_n 0, 1) := by decide +kernel
theorem dX7_car_68 : decode cX7_car 68 = .ok (.getfield 12, 3) := by decide +kernel
theorem dX7_car_71 : decode cX7_car 71 = .ok (.iload_n 1, 1) := by decide +kernel
theorem dX7_car_72 : decode cX7_car 72 = .ok (.invokevirtual 100, 3) := by decide +kernel
theorem dX7_car_75 : decode cX7_car 75 = .ok (.ireturn, 1) := by decide +kernel
theorem dX7_car_76 : decode cX7_car 76 = .ok (.aload_n 0, 1) := by decide +kernel
theorem dX7_car_77 : decode cX7_car 77 = .ok (.getfield 12, 3) := by decide +kernel
theorem dX7_car_80 : decode cX7_car 80 = .ok (.iload_n 1, 1) := by decide +kernel
theorem dX7_car_81 : decode cX7_car 81 = .ok (.invokevirtual 103, 3) := by decide +kernel
theorem dX7_car_84 : decode cX7_car 84 = .ok (.ireturn, 1) := by decide +kernel
theorem dX7_car_85 : decode cX7_car 85 = .ok (.new 106, 3) := by decide +kernel
theorem dX7_car_88 : decode cX7_car 88 = .ok (.dup, 1) := by decide +kernel
theorem dX7_car_89 : decode cX7_car 89 = .ok (.ldc 108, 2) := by decide +kernel
theorem dX7_car_91 : decode cX7_car 91 = .ok (.invokespecial 110, 3) := by decide +kernel
theorem dX7_car_94 : decode cX7_car 94 = .ok (.athrow, 1) := by decide +kernel
theorem dX7_due_0 : decode cX7_due 0 = .ok (.aload_n 0, 1) := by decide +kernel
theorem dX7_due_1 : decode cX7_due 1 = .ok (.iload_n 1, 1) := by decide +kernel
theorem dX7_due_2 : decode cX7_due 2 = .ok (.invokevirtual 85, 3) := by decide +kernel
theorem dX7_due_5 : decode cX7_due 5 = .ok (.aload_n 0, 1) := by decide +kernel
theorem dX7_due_6 : decode cX7_due 6 = .ok (.getfield 12, 3) := by decide +kernel
theorem dX7_due_9 : decode cX7_due 9 = .ok (.iload_n 1, 1) := by decide +kernel
theorem dX7_due_10 : decode cX7_due 10 = .ok (.invokevirtual 111, 3) := by decide +kernel
theorem dX7_due_13 : decode cX7_due 13 = .ok (.lreturn, 1) := by decide +kernel
theorem dX7_setClosed_0 : decode cX7_setClosed 0 = .ok (.aload_n 0, 1) := by decide +kernel
theorem dX7_setClosed_1 : decode cX7_setClosed 1 = .ok (.iload_n 1, 1) := by decide +kernel
theorem dX7_setClosed_2 : decode cX7_setClosed 2 = .ok (.invokevirtual 115, 3) := by decide +kernel
theorem dX7_setClosed_5 : decode cX7_setClosed 5 = .ok (.aload_n 0, 1) := by decide +kernel
theorem dX7_setClosed_6 : decode cX7_setClosed 6 = .ok (.getfield 22, 3) := by decide +kernel
theorem dX7_setClosed_9 : decode cX7_setClosed 9 = .ok (.aload_n 0, 1) := by decide +kernel
theorem dX7_setClosed_10 : decode cX7_setClosed 10 = .ok (.getfield 12, 3) := by decide +kernel
theorem dX7_setClosed_13 : decode cX7_setClosed 13 = .ok (.invokevirtual 59, 3) := by decide +kernel
theorem dX7_setClosed_16 : decode cX7_setClosed 16 = .ok (.aload_n 0, 1) := by decide +kernel
theorem dX7_setClosed_17 : decode cX7_setClosed 17 = .ok (.getfield 12, 3) := by decide +kernel
theorem dX7_setClosed_20 : decode cX7_setClosed 20 = .ok (.iload_n 1, 1) := by decide +kernel
theorem dX7_setClosed_21 : decode cX7_setClosed 21 = .ok (.iload_n 2, 1) := by decide +kernel
theorem dX7_setClosed_22 : decode cX7_setClosed 22 = .ok (.invokevirtual 118, 3) := by decide +kernel
theorem dX7_setClosed_25 : decode cX7_setClosed 25 = .ok (.istore_n 3, 1) := by decide +kernel
theorem dX7_setClosed_26 : decode cX7_setClosed 26 = .ok (.aload_n 0, 1) := by decide +kernel
theorem dX7_setClosed_27 : decode cX7_setClosed 27 = .ok (.getfield 22, 3) := by decide +kernel
theorem dX7_setClosed_30 : decode cX7_setClosed 30 = .ok (.invokevirtual 72, 3) := by decide +kernel
theorem dX7_setClosed_33 : decode cX7_setClosed 33 = .ok (.iload_n 3, 1) := by decide +kernel
theorem dX7_setClosed_34 : decode cX7_setClosed 34 = .ok (.ireturn, 1) := by decide +kernel
theorem dX7_bay_0 : decode cX7_bay 0 = .ok (.aload_n 0, 1) := by decide +kernel
theorem dX7_bay_1 : decode cX7_bay 1 = .ok (.iload_n 1, 1) := by decide +kernel
theorem dX7_bay_2 : decode cX7_bay 2 = .ok (.invokevirtual 115, 3) := by decide +kernel
theorem dX7_bay_5 : decode cX7_bay 5 = .ok (.iload_n 2, 1) := by decide +kernel
theorem dX7_bay_6 : decode cX7_bay 6 = .ok (.tableswitch 123 0 7 #[46, 51, 56, 61, 66, 79, 96, 105], 46) := by decide +kernel
theorem dX7_bay_52 : decode cX7_bay 52 = .ok (.iload_n 1, 1) := by decide +kernel
theorem dX7_bay_53 : decode cX7_bay 53 = .ok (.invokestatic 122, 3) := by decide +kernel
theorem dX7_bay_56 : decode cX7_bay 56 = .ok (.ireturn, 1) := by decide +kernel
theorem dX7_bay_57 : decode cX7_bay 57 = .ok (.iload_n 1, 1) := by decide +kernel
theorem dX7_bay_58 : decode cX7_bay 58 = .ok (.invokestatic 125, 3) := by decide +kernel
theorem dX7_bay_61 : decode cX7_bay 61 = .ok (.ireturn, 1) := by decide +kernel
theorem dX7_bay_62 : decode cX7_bay 62 = .ok (.iload_n 1, 1) := by decide +kernel
theorem dX7_bay_63 : decode cX7_bay 63 = .ok (.invokestatic 128, 3) := by decide +kernel
theorem dX7_bay_66 : decode cX7_bay 66 = .ok (.ireturn, 1) := by decide +kernel
theorem dX7_bay_67 : decode cX7_bay 67 = .ok (.iload_n 1, 1) := by decide +kernel
theorem dX7_bay_68 : decode cX7_bay 68 = .ok (.invokestatic 131, 3) := by decide +kernel
theorem dX7_bay_71 : decode cX7_bay 71 = .ok (.ireturn, 1) := by decide +kernel
theorem dX7_bay_72 : decode cX7_bay 72 = .ok (.iload_n 1, 1) := by decide +kernel
theorem dX7_bay_73 : decode cX7_bay 73 = .ok (.invokestatic 134, 3) := by decide +kernel
theorem dX7_bay_76 : decode cX7_bay 76 = .ok (.ifCond .eq 7, 3) := by decide +kernel
theorem dX7_bay_79 : decode cX7_bay 79 = .ok (.iconst 1, 1) := by decide +kernel
theorem dX7_bay_80 : decode cX7_bay 80 = .ok (.goto 4, 3) := by decide +kernel
theorem dX7_bay_83 : decode cX7_bay 83 = .ok (.iconst 0, 1) := by decide +kernel
theorem dX7_bay_84 : decode cX7_bay 84 = .ok (.ireturn, 1) := by decide +kernel
theorem dX7_bay_85 : decode cX7_bay 85 = .ok (.aload_n 0, 1) := by decide +kernel
theorem dX7_bay_86 : decode cX7_bay 86 = .ok (.getfield 12, 3) := by decide +kernel
theorem dX7_bay_89 : decode cX7_bay 89 = .ok (.iload_n 1, 1) := by decide +kernel
theorem dX7_bay_90 : decode cX7_bay 90 = .ok (.invokevirtual 138, 3) := by decide +kernel
theorem dX7_bay_93 : decode cX7_bay 93 = .ok (.ifCond .eq 7, 3) := by decide +kernel
theorem dX7_bay_96 : decode cX7_bay 96 = .ok (.iconst 1, 1) := by decide +kernel
theorem dX7_bay_97 : decode cX7_bay 97 = .ok (.goto 4, 3) := by decide +kernel
theorem dX7_bay_100 : decode cX7_bay 100 = .ok (.iconst 0, 1) := by decide +kernel
theorem dX7_bay_101 : decode cX7_bay 101 = .ok (.ireturn, 1) := by decide +kernel
theorem dX7_bay_102 : decode cX7_bay 102 = .ok (.aload_n 0, 1) := by decide +kernel
theorem dX7_bay_103 : decode cX7_bay 103 = .ok (.getfield 12, 3) := by decide +kernel
theorem dX7_bay_106 : decode cX7_bay 106 = .ok (.iload_n 1, 1) := by decide +kernel
theorem dX7_bay_107 : decode cX7_bay 107 = .ok (.invokevirtual 141, 3) := by decide +kernel
theorem dX7_bay_110 : decode cX7_bay 110 = .ok (.ireturn, 1) := by decide +kernel
theorem dX7_bay_111 : decode cX7_bay 111 = .ok (.aload_n 0, 1) := by decide +kernel
theorem dX7_bay_112 : decode cX7_bay 112 = .ok (.getfield 12, 3) := by decide +kernel
theorem dX7_bay_115 : decode cX7_bay 115 = .ok (.iload_n 1, 1) := by decide +kernel
theorem dX7_bay_116 : decode cX7_bay 116 = .ok (.invokevirtual 144, 3) := by decide +kernel
theorem dX7_bay_119 : decode cX7_bay 119 = .ok (.iconst (-1), 1) := by decide +kernel
theorem dX7_bay_120 : decode cX7_bay 120 = .ok (.if_icmp .ne 7, 3) := by decide +kernel
theorem dX7_bay_123 : decode cX7_bay 123 = .ok (.iconst 1, 1) := by decide +kernel
theorem dX7_bay_124 : decode cX7_bay 124 = .ok (.goto 4, 3) := by decide +kernel
theorem dX7_bay_127 : decode cX7_bay 127 = .ok (.iconst 0, 1) := by decide +kernel
theorem dX7_bay_128 : decode cX7_bay 128 = .ok (.ireturn, 1) := by decide +kernel
theorem dX7_bay_129 : decode cX7_bay 129 = .ok (.new 106, 3) := by decide +kernel
theorem dX7_bay_132 : decode cX7_bay 132 = .ok (.dup, 1) := by decide +kernel
theorem dX7_bay_133 : decode cX7_bay 133 = .ok (.ldc 147, 2) := by decide +kernel
theorem dX7_bay_135 : decode cX7_bay 135 = .ok (.invokespecial 110, 3) := by decide +kernel
theorem dX7_bay_138 : decode cX7_bay 138 = .ok (.athrow, 1) := by decide +kernel
theorem dX7_choice_0 : decode cX7_choice 0 = .ok (.aload_n 0, 1) := by decide +kernel
theorem dX7_choice_1 : decode cX7_choice 1 = .ok (.iload_n 1, 1) := by decide +kernel
theorem dX7_choice_2 : decode cX7_choice 2 = .ok (.iload_n 2, 1) := by decide +kernel
theorem dX7_choice_3 : decode cX7_choice 3 = .ok (.invokevirtual 44, 3) := by decide +kernel
theorem dX7_choice_6 : decode cX7_choice 6 = .ok (.aload_n 0, 1) := by decide +kernel
theorem dX7_choice_7 : decode cX7_choice 7 = .ok (.getfield 12, 3) := by decide +kernel
theorem dX7_choice_10 : decode cX7_choice 10 = .ok (.iload_n 1, 1) := by decide +kernel
theorem dX7_choice_11 : decode cX7_choice 11 = .ok (.iload_n 2, 1) := by decide +kernel
theorem dX7_choice_12 : decode cX7_choice 12 = .ok (.iconst (-1), 1) := by decide +kernel
theorem dX7_choice_13 : decode cX7_choice 13 = .ok (.invokevirtual 149, 3) := by decide +kernel
theorem dX7_choice_16 : decode cX7_choice 16 = .ok (.istore_n 3, 1) := by decide +kernel
theorem dX7_choice_17 : decode cX7_choice 17 = .ok (.iload_n 3, 1) := by decide +kernel
theorem dX7_choice_18 : decode cX7_choice 18 = .ok (.iconst (-1), 1) := by decide +kernel
theorem dX7_choice_19 : decode cX7_choice 19 = .ok (.if_icmp .ne 13, 3) := by decide +kernel
theorem dX7_choice_22 : decode cX7_choice 22 = .ok (.new 153, 3) := by decide +kernel
theorem dX7_choice_25 : decode cX7_choice 25 = .ok (.dup, 1) := by decide +kernel
theorem dX7_choice_26 : decode cX7_choice 26 = .ok (.ldc 69, 2) := by decide +kernel
theorem dX7_choice_28 : decode cX7_choice 28 = .ok (.invokespecial 155, 3) := by decide +kernel
theorem dX7_choice_31 : decode cX7_choice 31 = .ok (.athrow, 1) := by decide +kernel
theorem dX7_choice_32 : decode cX7_choice 32 = .ok (.iload_n 3, 1) := by decide +kernel
theorem dX7_choice_33 : decode cX7_choice 33 = .ok (.ireturn, 1) := by decide +kernel
theorem dX7_refuge_0 : decode cX7_refuge 0 = .ok (.aload_n 0, 1) := by decide +kernel
theorem dX7_refuge_1 : decode cX7_refuge 1 = .ok (.iload_n 1, 1) := by decide +kernel
theorem dX7_refuge_2 : decode cX7_refuge 2 = .ok (.invokevirtual 75, 3) := by decide +kernel
theorem dX7_refuge_5 : decode cX7_refuge 5 = .ok (.aload_n 0, 1) := by decide +kernel
theorem dX7_refuge_6 : decode cX7_refuge 6 = .ok (.getfield 12, 3) := by decide +kernel
theorem dX7_refuge_9 : decode cX7_refuge 9 = .ok (.iload_n 1, 1) := by decide +kernel
theorem dX7_refuge_10 : decode cX7_refuge 10 = .ok (.invokevirtual 156, 3) := by decide +kernel
theorem dX7_refuge_13 : decode cX7_refuge 13 = .ok (.istore_n 2, 1) := by decide +kernel
theorem dX7_refuge_14 : decode cX7_refuge 14 = .ok (.iload_n 2, 1) := by decide +kernel
theorem dX7_refuge_15 : decode cX7_refuge 15 = .ok (.iconst (-1), 1) := by decide +kernel
theorem dX7_refuge_16 : decode cX7_refuge 16 = .ok (.if_icmp .ne 13, 3) := by decide +kernel
theorem dX7_refuge_19 : decode cX7_refuge 19 = .ok (.new 153, 3) := by decide +kernel
theorem dX7_refuge_22 : decode cX7_refuge 22 = .ok (.dup, 1) := by decide +kernel
theorem dX7_refuge_23 : decode cX7_refuge 23 = .ok (.ldc 69, 2) := by decide +kernel
theorem dX7_refuge_25 : decode cX7_refuge 25 = .ok (.invokespecial 155, 3) := by decide +kernel
theorem dX7_refuge_28 : decode cX7_refuge 28 = .ok (.athrow, 1) := by decide +kernel
theorem dX7_refuge_29 : decode cX7_refuge 29 = .ok (.iload_n 2, 1) := by decide +kernel
theorem dX7_refuge_30 : decode cX7_refuge 30 = .ok (.ireturn, 1) := by decide +kernel
theorem dX7_bays_0 : decode cX7_bays 0 = .ok (.iload_n 1, 1) := by decide +kernel
theorem dX7_bays_1 : decode cX7_bays 1 = .ok (.tableswitch 97 0 5 #[39, 47, 56, 65, 73, 85], 39) := by decide +kernel
theorem dX7_bays_40 : decode cX7_bays 40 = .ok (.aload_n 0, 1) := by decide +kernel
theorem dX7_bays_41 : decode cX7_bays 41 = .ok (.getfield 12, 3) := by decide +kernel
theorem dX7_bays_44 : decode cX7_bays 44 = .ok (.invokevirtual 159, 3) := by decide +kernel
theorem dX7_bays_47 : decode cX7_bays 47 = .ok (.ireturn, 1) := by decide +kernel
theorem dX7_bays_48 : decode cX7_bays 48 = .ok (.aload_n 0, 1) := by decide +kernel
theorem dX7_bays_49 : decode cX7_bays 49 = .ok (.getfield 12, 3) := by decide +kernel
theorem dX7_bays_52 : decode cX7_bays 52 = .ok (.iconst 0, 1) := by decide +kernel
theorem dX7_bays_53 : decode cX7_bays 53 = .ok (.invokevirtual 163, 3) := by decide +kernel
theorem dX7_bays_56 : decode cX7_bays 56 = .ok (.ireturn, 1) := by decide +kernel
theorem dX7_bays_57 : decode cX7_bays 57 = .ok (.aload_n 0, 1) := by decide +kernel
theorem dX7_bays_58 : decode cX7_bays 58 = .ok (.getfield 12, 3) := by decide +kernel
theorem dX7_bays_61 : decode cX7_bays 61 = .ok (.iconst 1, 1) := by decide +kernel
theorem dX7_bays_62 : decode cX7_bays 62 = .ok (.invokevirtual 163, 3) := by decide +kernel
theorem dX7_bays_65 : decode cX7_bays 65 = .ok (.ireturn, 1) := by decide +kernel
theorem dX7_bays_66 : decode cX7_bays 66 = .ok (.aload_n 0, 1) := by decide +kernel
theorem dX7_bays_67 : decode cX7_bays 67 = .ok (.getfield 12, 3) := by decide +kernel
theorem dX7_bays_70 : decode cX7_bays 70 = .ok (.invokevirtual 167, 3) := by decide +kernel
theorem dX7_bays_73 : decode cX7_bays 73 = .ok (.ireturn, 1) := by decide +kernel
theorem dX7_bays_74 : decode cX7_bays 74 = .ok (.aload_n 0, 1) := by decide +kernel
theorem dX7_bays_75 : decode cX7_bays 75 = .ok (.getfield 12, 3) := by decide +kernel
theorem dX7_bays_78 : decode cX7_bays 78 = .ok (.iconst 0, 1) := by decide +kernel
theorem dX7_bays_79 : decode cX7_bays 79 = .ok (.invokevirtual 170, 3) := by decide +kernel
theorem dX7_bays_82 : decode cX7_bays 82 = .ok (.invokestatic 174, 3) := by decide +kernel
theorem dX7_bays_85 : decode cX7_bays 85 = .ok (.ireturn, 1) := by decide +kernel
theorem dX7_bays_86 : decode cX7_bays 86 = .ok (.aload_n 0, 1) := by decide +kernel
theorem dX7_bays_87 : decode cX7_bays 87 = .ok (.getfield 12, 3) := by decide +kernel
theorem dX7_bays_90 : decode cX7_bays 90 = .ok (.iconst 1, 1) := by decide +kernel
theorem dX7_bays_91 : decode cX7_bays 91 = .ok (.invokevirtual 170, 3) := by decide +kernel
theorem dX7_bays_94 : decode cX7_bays 94 = .ok (.invokestatic 174, 3) := by decide +kernel
theorem dX7_bays_97 : decode cX7_bays 97 = .ok (.ireturn, 1) := by decide +kernel
theorem dX7_bays_98 : decode cX7_bays 98 = .ok (.new 106, 3) := by decide +kernel
theorem dX7_bays_101 : decode cX7_bays 101 = .ok (.dup, 1) := by decide +kernel
theorem dX7_bays_102 : decode cX7_bays 102 = .ok (.ldc 180, 2) := by decide +kernel
theorem dX7_bays_104 : decode cX7_bays 104 = .ok (.invokespecial 110, 3) := by decide +kernel
theorem dX7_bays_107 : decode cX7_bays 107 = .ok (.athrow, 1) := by decide +kernel
theorem dX7_bestMoves_0 : decode cX7_bestMoves 0 = .ok (.aload_n 0, 1) := by decide +kernel
theorem dX7_bestMoves_1 : decode cX7_bestMoves 1 = .ok (.lload_n 1, 1) := by decide +kernel
theorem dX7_bestMoves_2 : decode cX7_bestMoves 2 = .ok (.invokevirtual 182, 3) := by decide +kernel
theorem dX7_bestMoves_5 : decode cX7_bestMoves 5 = .ok (.aload_n 0, 1) := by decide +kernel
theorem dX7_bestMoves_6 : decode cX7_bestMoves 6 = .ok (.aload_n 0, 1) := by decide +kernel
theorem dX7_bestMoves_7 : decode cX7_bestMoves 7 = .ok (.getfield 29, 3) := by decide +kernel
theorem dX7_bestMoves_10 : decode cX7_bestMoves 10 = .ok (.aload_n 0, 1) := by decide +kernel
theorem dX7_bestMoves_11 : decode cX7_bestMoves 11 = .ok (.getfield 12, 3) := by decide +kernel
theorem dX7_bestMoves_14 : decode cX7_bestMoves 14 = .ok (.lload_n 1, 1) := by decide +kernel
theorem dX7_bestMoves_15 : decode cX7_bestMoves 15 = .ok (.invokevirtual 186, 3) := by decide +kernel
theorem dX7_bestMoves_18 : decode cX7_bestMoves 18 = .ok (.invokevirtual 190, 3) := by decide +kernel
theorem dX7_bestMoves_21 : decode cX7_bestMoves 21 = .ok (.aload_n 0, 1) := by decide +kernel
theorem dX7_bestMoves_22 : decode cX7_bestMoves 22 = .ok (.getfield 29, 3) := by decide +kernel
theorem dX7_bestMoves_25 : decode cX7_bestMoves 25 = .ok (.invokevirtual 194, 3) := by decide +kernel
theorem dX7_bestMoves_28 : decode cX7_bestMoves 28 = .ok (.ireturn, 1) := by decide +kernel
theorem dX7_bestEnd_0 : decode cX7_bestEnd 0 = .ok (.aload_n 0, 1) := by decide +kernel
theorem dX7_bestEnd_1 : decode cX7_bestEnd 1 = .ok (.lload_n 1, 1) := by decide +kernel
theorem dX7_bestEnd_2 : decode cX7_bestEnd 2 = .ok (.invokevirtual 182, 3) := by decide +kernel
theorem dX7_bestEnd_5 : decode cX7_bestEnd 5 = .ok (.aload_n 0, 1) := by decide +kernel
theorem dX7_bestEnd_6 : decode cX7_bestEnd 6 = .ok (.aload_n 0, 1) := by decide +kernel
theorem dX7_bestEnd_7 : decode cX7_bestEnd 7 = .ok (.getfield 29, 3) := by decide +kernel
theorem dX7_bestEnd_10 : decode cX7_bestEnd 10 = .ok (.aload_n 0, 1) := by decide +kernel
theorem dX7_bestEnd_11 : decode cX7_bestEnd 11 = .ok (.getfield 12, 3) := by decide +kernel
theorem dX7_bestEnd_14 : decode cX7_bestEnd 14 = .ok (.lload_n 1, 1) := by decide +kernel
theorem dX7_bestEnd_15 : decode cX7_bestEnd 15 = .ok (.invokevirtual 186, 3) := by decide +kernel
theorem dX7_bestEnd_18 : decode cX7_bestEnd 18 = .ok (.invokevirtual 190, 3) := by decide +kernel
theorem dX7_bestEnd_21 : decode cX7_bestEnd 21 = .ok (.aload_n 0, 1) := by decide +kernel
theorem dX7_bestEnd_22 : decode cX7_bestEnd 22 = .ok (.getfield 29, 3) := by decide +kernel
theorem dX7_bestEnd_25 : decode cX7_bestEnd 25 = .ok (.invokevirtual 197, 3) := by decide +kernel
theorem dX7_bestEnd_28 : decode cX7_bestEnd 28 = .ok (.ireturn, 1) := by decide +kernel
theorem dX7_bestCar_0 : decode cX7_bestCar 0 = .ok (.aload_n 0, 1) := by decide +kernel
theorem dX7_bestCar_1 : decode cX7_bestCar 1 = .ok (.lload_n 1, 1) := by decide +kernel
theorem dX7_bestCar_2 : decode cX7_bestCar 2 = .ok (.invokevirtual 182, 3) := by decide +kernel
theorem dX7_bestCar_5 : decode cX7_bestCar 5 = .ok (.iload_n 3, 1) := by decide +kernel
theorem dX7_bestCar_6 : decode cX7_bestCar 6 = .ok (.ifCond .lt 11, 3) := by decide +kernel
theorem dX7_bestCar_9 : decode cX7_bestCar 9 = .ok (.iload_n 3, 1) := by decide +kernel
theorem dX7_bestCar_10 : decode cX7_bestCar 10 = .ok (.lload_n 1, 1) := by decide +kernel
theorem dX7_bestCar_11 : decode cX7_bestCar 11 = .ok (.invokestatic 174, 3) := by decide +kernel
theorem dX7_bestCar_14 : decode cX7_bestCar 14 = .ok (.if_icmp .lt 13, 3) := by decide +kernel
theorem dX7_bestCar_17 : decode cX7_bestCar 17 = .ok (.new 106, 3) := by decide +kernel
theorem dX7_bestCar_20 : decode cX7_bestCar 20 = .ok (.dup, 1) := by decide +kernel
theorem dX7_bestCar_21 : decode cX7_bestCar 21 = .ok (.ldc 200, 2) := by decide +kernel
theorem dX7_bestCar_23 : decode cX7_bestCar 23 = .ok (.invokespecial 110, 3) := by decide +kernel
theorem dX7_bestCar_26 : decode cX7_bestCar 26 = .ok (.athrow, 1) := by decide +kernel
theorem dX7_bestCar_27 : decode cX7_bestCar 27 = .ok (.aload_n 0, 1) := by decide +kernel
theorem dX7_bestCar_28 : decode cX7_bestCar 28 = .ok (.aload_n 0, 1) := by decide +kernel
theorem dX7_bestCar_29 : decode cX7_bestCar 29 = .ok (.getfield 29, 3) := by decide +kernel
theorem dX7_bestCar_32 : decode cX7_bestCar 32 = .ok (.aload_n 0, 1) := by decide +kernel
theorem dX7_bestCar_33 : decode cX7_bestCar 33 = .ok (.getfield 12, 3) := by decide +kernel
theorem dX7_bestCar_36 : decode cX7_bestCar 36 = .ok (.lload_n 1, 1) := by decide +kernel
theorem dX7_bestCar_37 : decode cX7_bestCar 37 = .ok (.invokevirtual 186, 3) := by decide +kernel
theorem dX7_bestCar_40 : decode cX7_bestCar 40 = .ok (.invokevirtual 190, 3) := by decide +kernel
theorem dX7_bestCar_43 : decode cX7_bestCar 43 = .ok (.aload_n 0, 1) := by decide +kernel
theorem dX7_bestCar_44 : decode cX7_bestCar 44 = .ok (.getfield 29, 3) := by decide +kernel
theorem dX7_bestCar_47 : decode cX7_bestCar 47 = .ok (.iload_n 3, 1) := by decide +kernel
theorem dX7_bestCar_48 : decode cX7_bestCar 48 = .ok (.invokevirtual 202, 3) := by decide +kernel
theorem dX7_bestCar_51 : decode cX7_bestCar 51 = .ok (.ireturn, 1) := by decide +kernel
theorem dX7_plainMoves_0 : decode cX7_plainMoves 0 = .ok (.aload_n 0, 1) := by decide +kernel
theorem dX7_plainMoves_1 : decode cX7_plainMoves 1 = .ok (.lload_n 1, 1) := by decide +kernel
theorem dX7_plainMoves_2 : decode cX7_plainMoves 2 = .ok (.invokevirtual 182, 3) := by decide +kernel
theorem dX7_plainMoves_5 : decode cX7_plainMoves 5 = .ok (.aload_n 0, 1) := by decide +kernel
theorem dX7_plainMoves_6 : decode cX7_plainMoves 6 = .ok (.getfield 29, 3) := by decide +kernel
theorem dX7_plainMoves_9 : decode cX7_plainMoves 9 = .ok (.aload_n 0, 1) := by decide +kernel
theorem dX7_plainMoves_10 : decode cX7_plainMoves 10 = .ok (.getfield 12, 3) := by decide +kernel
theorem dX7_plainMoves_13 : decode cX7_plainMoves 13 = .ok (.lload_n 1, 1) := by decide +kernel
theorem dX7_plainMoves_14 : decode cX7_plainMoves 14 = .ok (.invokevirtual 205, 3) := by decide +kernel
theorem dX7_plainMoves_17 : decode cX7_plainMoves 17 = .ok (.istore_n 3, 1) := by decide +kernel
theorem dX7_plainMoves_18 : decode cX7_plainMoves 18 = .ok (.aload_n 0, 1) := by decide +kernel
theorem dX7_plainMoves_19 : decode cX7_plainMoves 19 = .ok (.iload_n 3, 1) := by decide +kernel
theorem dX7_plainMoves_20 : decode cX7_plainMoves 20 = .ok (.ifCond .eq 7, 3) := by decide +kernel
theorem dX7_plainMoves_23 : decode cX7_plainMoves 23 = .ok (.iconst 1, 1) := by decide +kernel
theorem dX7_plainMoves_24 : decode cX7_plainMoves 24 = .ok (.goto 4, 3) := by decide +kernel
theorem dX7_plainMoves_27 : decode cX7_plainMoves 27 = .ok (.iconst 0, 1) := by decide +kernel
theorem dX7_plainMoves_28 : decode cX7_plainMoves 28 = .ok (.invokevirtual 190, 3) := by decide +kernel
theorem dX7_plainMoves_31 : decode cX7_plainMoves 31 = .ok (.iload_n 3, 1) := by decide +kernel
theorem dX7_plainMoves_32 : decode cX7_plainMoves 32 = .ok (.ireturn, 1) := by decide +kernel
theorem dX7_retrieveAll_0 : decode cX7_retrieveAll 0 = .ok (.aload_n 0, 1) := by decide +kernel
theorem dX7_retrieveAll_1 : decode cX7_retrieveAll 1 = .ok (.lload_n 1, 1) := by decide +kernel
theorem dX7_retrieveAll_2 : decode cX7_retrieveAll 2 = .ok (.invokevirtual 182, 3) := by decide +kernel
theorem dX7_retrieveAll_5 : decode cX7_retrieveAll 5 = .ok (.aload_n 0, 1) := by decide +kernel
theorem dX7_retrieveAll_6 : decode cX7_retrieveAll 6 = .ok (.aload_n 0, 1) := by decide +kernel
theorem dX7_retrieveAll_7 : decode cX7_retrieveAll 7 = .ok (.getfield 29, 3) := by decide +kernel
theorem dX7_retrieveAll_10 : decode cX7_retrieveAll 10 = .ok (.aload_n 0, 1) := by decide +kernel
theorem dX7_retrieveAll_11 : decode cX7_retrieveAll 11 = .ok (.getfield 12, 3) := by decide +kernel
theorem dX7_retrieveAll_14 : decode cX7_retrieveAll 14 = .ok (.lload_n 1, 1) := by decide +kernel
theorem dX7_retrieveAll_15 : decode cX7_retrieveAll 15 = .ok (.invokevirtual 186, 3) := by decide +kernel
theorem dX7_retrieveAll_18 : decode cX7_retrieveAll 18 = .ok (.invokevirtual 190, 3) := by decide +kernel
theorem dX7_retrieveAll_21 : decode cX7_retrieveAll 21 = .ok (.aload_n 0, 1) := by decide +kernel
theorem dX7_retrieveAll_22 : decode cX7_retrieveAll 22 = .ok (.getfield 22, 3) := by decide +kernel
theorem dX7_retrieveAll_25 : decode cX7_retrieveAll 25 = .ok (.aload_n 0, 1) := by decide +kernel
theorem dX7_retrieveAll_26 : decode cX7_retrieveAll 26 = .ok (.getfield 12, 3) := by decide +kernel
theorem dX7_retrieveAll_29 : decode cX7_retrieveAll 29 = .ok (.invokevirtual 59, 3) := by decide +kernel
theorem dX7_retrieveAll_32 : decode cX7_retrieveAll 32 = .ok (.lload_n 1, 1) := by decide +kernel
theorem dX7_retrieveAll_33 : decode cX7_retrieveAll 33 = .ok (.invokestatic 174, 3) := by decide +kernel
theorem dX7_retrieveAll_36 : decode cX7_retrieveAll 36 = .ok (.istore_n 3, 1) := by decide +kernel
theorem dX7_retrieveAll_37 : decode cX7_retrieveAll 37 = .ok (.iconst 0, 1) := by decide +kernel
theorem dX7_retrieveAll_38 : decode cX7_retrieveAll 38 = .ok (.istore 4, 2) := by decide +kernel
theorem dX7_retrieveAll_40 : decode cX7_retrieveAll 40 = .ok (.iload 4, 2) := by decide +kernel
theorem dX7_retrieveAll_42 : decode cX7_retrieveAll 42 = .ok (.iload_n 3, 1) := by decide +kernel
theorem dX7_retrieveAll_43 : decode cX7_retrieveAll 43 = .ok (.if_icmp .ge 26, 3) := by decide +kernel
theorem dX7_retrieveAll_46 : decode cX7_retrieveAll 46 = .ok (.aload_n 0, 1) := by decide +kernel
theorem dX7_retrieveAll_47 : decode cX7_retrieveAll 47 = .ok (.getfield 12, 3) := by decide +kernel
theorem dX7_retrieveAll_50 : decode cX7_retrieveAll 50 = .ok (.aload_n 0, 1) := by decide +kernel
theorem dX7_retrieveAll_51 : decode cX7_retrieveAll 51 = .ok (.getfield 29, 3) := by decide +kernel
theorem dX7_retrieveAll_54 : decode cX7_retrieveAll 54 = .ok (.iload 4, 2) := by decide +kernel
theorem dX7_retrieveAll_56 : decode cX7_retrieveAll 56 = .ok (.invokevirtual 202, 3) := by decide +kernel
theorem dX7_retrieveAll_59 : decode cX7_retrieveAll 59 = .ok (.invokevirtual 209, 3) := by decide +kernel
theorem dX7_retrieveAll_62 : decode cX7_retrieveAll 62 = .ok (.pop, 1) := by decide +kernel
theorem dX7_retrieveAll_63 : decode cX7_retrieveAll 63 = .ok (.iinc 4 1, 3) := by decide +kernel
theorem dX7_retrieveAll_66 : decode cX7_retrieveAll 66 = .ok (.goto (-26), 3) := by decide +kernel
theorem dX7_retrieveAll_69 : decode cX7_retrieveAll 69 = .ok (.aload_n 0, 1) := by decide +kernel
theorem dX7_retrieveAll_70 : decode cX7_retrieveAll 70 = .ok (.getfield 22, 3) := by decide +kernel
theorem dX7_retrieveAll_73 : decode cX7_retrieveAll 73 = .ok (.invokevirtual 72, 3) := by decide +kernel
theorem dX7_retrieveAll_76 : decode cX7_retrieveAll 76 = .ok (.aload_n 0, 1) := by decide +kernel
theorem dX7_retrieveAll_77 : decode cX7_retrieveAll 77 = .ok (.getfield 29, 3) := by decide +kernel
theorem dX7_retrieveAll_80 : decode cX7_retrieveAll 80 = .ok (.invokevirtual 197, 3) := by decide +kernel
theorem dX7_retrieveAll_83 : decode cX7_retrieveAll 83 = .ok (.ireturn, 1) := by decide +kernel
theorem dX7_tidy_0 : decode cX7_tidy 0 = .ok (.aload_n 0, 1) := by decide +kernel
theorem dX7_tidy_1 : decode cX7_tidy 1 = .ok (.getfield 22, 3) := by decide +kernel
theorem dX7_tidy_4 : decode cX7_tidy 4 = .ok (.aload_n 0, 1) := by decide +kernel
theorem dX7_tidy_5 : decode cX7_tidy 5 = .ok (.getfield 12, 3) := by decide +kernel
theorem dX7_tidy_8 : decode cX7_tidy 8 = .ok (.invokevirtual 59, 3) := by decide +kernel
theorem dX7_tidy_11 : decode cX7_tidy 11 = .ok (.aload_n 0, 1) := by decide +kernel
theorem dX7_tidy_12 : decode cX7_tidy 12 = .ok (.getfield 12, 3) := by decide +kernel
theorem dX7_tidy_15 : decode cX7_tidy 15 = .ok (.invokevirtual 212, 3) := by decide +kernel
theorem dX7_tidy_18 : decode cX7_tidy 18 = .ok (.istore_n 1, 1) := by decide +kernel
theorem dX7_tidy_19 : decode cX7_tidy 19 = .ok (.aload_n 0, 1) := by decide +kernel
theorem dX7_tidy_20 : decode cX7_tidy 20 = .ok (.getfield 22, 3) := by decide +kernel
theorem dX7_tidy_23 : decode cX7_tidy 23 = .ok (.invokevirtual 72, 3) := by decide +kernel
theorem dX7_tidy_26 : decode cX7_tidy 26 = .ok (.iload_n 1, 1) := by decide +kernel
theorem dX7_tidy_27 : decode cX7_tidy 27 = .ok (.ireturn, 1) := by decide +kernel
theorem dX7_pass_0 : decode cX7_pass 0 = .ok (.iload_n 1, 1) := by decide +kernel
theorem dX7_pass_1 : decode cX7_pass 1 = .ok (.invokestatic 215, 3) := by decide +kernel
theorem dX7_pass_4 : decode cX7_pass 4 = .ok (.ifCond .ne 13, 3) := by decide +kernel
theorem dX7_pass_7 : decode cX7_pass 7 = .ok (.new 106, 3) := by decide +kernel
theorem dX7_pass_10 : decode cX7_pass 10 = .ok (.dup, 1) := by decide +kernel
theorem dX7_pass_11 : decode cX7_pass 11 = .ok (.ldc 218, 2) := by decide +kernel
theorem dX7_pass_13 : decode cX7_pass 13 = .ok (.invokespecial 110, 3) := by decide +kernel
theorem dX7_pass_16 : decode cX7_pass 16 = .ok (.athrow, 1) := by decide +kernel
theorem dX7_pass_17 : decode cX7_pass 17 = .ok (.aload_n 0, 1) := by decide +kernel
theorem dX7_pass_18 : decode cX7_pass 18 = .ok (.getfield 22, 3) := by decide +kernel
theorem dX7_pass_21 : decode cX7_pass 21 = .ok (.aload_n 0, 1) := by decide +kernel
theorem dX7_pass_22 : decode cX7_pass 22 = .ok (.getfield 12, 3) := by decide +kernel
theorem dX7_pass_25 : decode cX7_pass 25 = .ok (.invokevirtual 59, 3) := by decide +kernel
theorem dX7_pass_28 : decode cX7_pass 28 = .ok (.aload_n 0, 1) := by decide +kernel
theorem dX7_pass_29 : decode cX7_pass 29 = .ok (.getfield 12, 3) := by decide +kernel
theorem dX7_pass_32 : decode cX7_pass 32 = .ok (.iload_n 1, 1) := by decide +kernel
theorem dX7_pass_33 : decode cX7_pass 33 = .ok (.invokevirtual 220, 3) := by decide +kernel
theorem dX7_pass_36 : decode cX7_pass 36 = .ok (.ifCond .ne 13, 3) := by decide +kernel
theorem dX7_pass_39 : decode cX7_pass 39 = .ok (.new 52, 3) := by decide +kernel
theorem dX7_pass_42 : decode cX7_pass 42 = .ok (.dup, 1) := by decide +kernel
theorem dX7_pass_43 : decode cX7_pass 43 = .ok (.ldc 223, 2) := by decide +kernel
theorem dX7_pass_45 : decode cX7_pass 45 = .ok (.invokespecial 56, 3) := by decide +kernel
theorem dX7_pass_48 : decode cX7_pass 48 = .ok (.athrow, 1) := by decide +kernel
theorem dX7_pass_49 : decode cX7_pass 49 = .ok (.aload_n 0, 1) := by decide +kernel
theorem dX7_pass_50 : decode cX7_pass 50 = .ok (.getfield 22, 3) := by decide +kernel
theorem dX7_pass_53 : decode cX7_pass 53 = .ok (.invokevirtual 72, 3) := by decide +kernel
theorem dX7_pass_56 : decode cX7_pass 56 = .ok (.aload_n 0, 1) := by decide +kernel
theorem dX7_pass_57 : decode cX7_pass 57 = .ok (.getfield 12, 3) := by decide +kernel
theorem dX7_pass_60 : decode cX7_pass 60 = .ok (.invokevirtual 225, 3) := by decide +kernel
theorem dX7_pass_63 : decode cX7_pass 63 = .ok (.ireturn, 1) := by decide +kernel
theorem dX7_machine_0 : decode cX7_machine 0 = .ok (.aload_n 0, 1) := by decide +kernel
theorem dX7_machine_1 : decode cX7_machine 1 = .ok (.iload_n 1, 1) := by decide +kernel
theorem dX7_machine_2 : decode cX7_machine 2 = .ok (.invokevirtual 228, 3) := by decide +kernel
theorem dX7_machine_5 : decode cX7_machine 5 = .ok (.aload_n 0, 1) := by decide +kernel
theorem dX7_machine_6 : decode cX7_machine 6 = .ok (.getfield 12, 3) := by decide +kernel
theorem dX7_machine_9 : decode cX7_machine 9 = .ok (.iload_n 1, 1) := by decide +kernel
theorem dX7_machine_10 : decode cX7_machine 10 = .ok (.invokevirtual 231, 3) := by decide +kernel
theorem dX7_machine_13 : decode cX7_machine 13 = .ok (.astore_n 3, 1) := by decide +kernel
theorem dX7_machine_14 : decode cX7_machine 14 = .ok (.iload_n 2, 1) := by decide +kernel
theorem dX7_machine_15 : decode cX7_machine 15 = .ok (.tableswitch 40 0 2 #[25, 30, 35], 25) := by decide +kernel
theorem dX7_machine_40 : decode cX7_machine 40 = .ok (.aload_n 3, 1) := by decide +kernel
theorem dX7_machine_41 : decode cX7_machine 41 = .ok (.invokevirtual 235, 3) := by decide +kernel
theorem dX7_machine_44 : decode cX7_machine 44 = .ok (.ireturn, 1) := by decide +kernel
theorem dX7_machine_45 : decode cX7_machine 45 = .ok (.aload_n 3, 1) := by decide +kernel
theorem dX7_machine_46 : decode cX7_machine 46 = .ok (.invokevirtual 240, 3) := by decide +kernel
theorem dX7_machine_49 : decode cX7_machine 49 = .ok (.ireturn, 1) := by decide +kernel
theorem dX7_machine_50 : decode cX7_machine 50 = .ok (.aload_n 3, 1) := by decide +kernel
theorem dX7_machine_51 : decode cX7_machine 51 = .ok (.invokevirtual 243, 3) := by decide +kernel
theorem dX7_machine_54 : decode cX7_machine 54 = .ok (.ireturn, 1) := by decide +kernel
theorem dX7_machine_55 : decode cX7_machine 55 = .ok (.new 106, 3) := by decide +kernel
theorem dX7_machine_58 : decode cX7_machine 58 = .ok (.dup, 1) := by decide +kernel
theorem dX7_machine_59 : decode cX7_machine 59 = .ok (.ldc 246, 2) := by decide +kernel
theorem dX7_machine_61 : decode cX7_machine 61 = .ok (.invokespecial 110, 3) := by decide +kernel
theorem dX7_machine_64 : decode cX7_machine 64 = .ok (.athrow, 1) := by decide +kernel
theorem dX7_jobs_0 : decode cX7_jobs 0 = .ok (.aload_n 0, 1) := by decide +kernel
theorem dX7_jobs_1 : decode cX7_jobs 1 = .ok (.getfield 12, 3) := by decide +kernel
theorem dX7_jobs_4 : decode cX7_jobs 4 = .ok (.invokevirtual 248, 3) := by decide +kernel
theorem dX7_jobs_7 : decode cX7_jobs 7 = .ok (.invokevirtual 252, 3) := by decide +kernel
theorem dX7_jobs_10 : decode cX7_jobs 10 = .ok (.ireturn, 1) := by decide +kernel
theorem dX7_job_0 : decode cX7_job 0 = .ok (.iload_n 1, 1) := by decide +kernel
theorem dX7_job_1 : decode cX7_job 1 = .ok (.ifCond .lt 17, 3) := by decide +kernel
theorem dX7_job_4 : decode cX7_job 4 = .ok (.iload_n 1, 1) := by decide +kernel
theorem dX7_job_5 : decode cX7_job 5 = .ok (.aload_n 0, 1) := by decide +kernel
theorem dX7_job_6 : decode cX7_job 6 = .ok (.getfield 12, 3) := by decide +kernel
theorem dX7_job_9 : decode cX7_job 9 = .ok (.invokevirtual 248, 3) := by decide +kernel
theorem dX7_job_12 : decode cX7_job 12 = .ok (.invokevirtual 252, 3) := by decide +kernel
theorem dX7_job_15 : decode cX7_job 15 = .ok (.if_icmp .lt 14, 3) := by decide +kernel
theorem dX7_job_18 : decode cX7_job 18 = .ok (.new 257, 3) := by decide +kernel
theorem dX7_job_21 : decode cX7_job 21 = .ok (.dup, 1) := by decide +kernel
theorem dX7_job_22 : decode cX7_job 22 = .ok (.ldc_w 259, 3) := by decide +kernel
theorem dX7_job_25 : decode cX7_job 25 = .ok (.invokespecial 261, 3) := by decide +kernel
theorem dX7_job_28 : decode cX7_job 28 = .ok (.athrow, 1) := by decide +kernel
theorem dX7_job_29 : decode cX7_job 29 = .ok (.iload_n 2, 1) := by decide +kernel
theorem dX7_job_30 : decode cX7_job 30 = .ok (.ifCond .lt 8, 3) := by decide +kernel
theorem dX7_job_33 : decode cX7_job 33 = .ok (.iload_n 2, 1) := by decide +kernel
theorem dX7_job_34 : decode cX7_job 34 = .ok (.iconst 5, 1) := by decide +kernel
theorem dX7_job_35 : decode cX7_job 35 = .ok (.if_icmp .lt 14, 3) := by decide +kernel
theorem dX7_job_38 : decode cX7_job 38 = .ok (.new 106, 3) := by decide +kernel
theorem dX7_job_41 : decode cX7_job 41 = .ok (.dup, 1) := by decide +kernel
theorem dX7_job_42 : decode cX7_job 42 = .ok (.ldc_w 262, 3) := by decide +kernel
theorem dX7_job_45 : decode cX7_job 45 = .ok (.invokespecial 110, 3) := by decide +kernel
theorem dX7_job_48 : decode cX7_job 48 = .ok (.athrow, 1) := by decide +kernel
theorem dX7_job_49 : decode cX7_job 49 = .ok (.aload_n 0, 1) := by decide +kernel
theorem dX7_job_50 : decode cX7_job 50 = .ok (.getfield 12, 3) := by decide +kernel
theorem dX7_job_53 : decode cX7_job 53 = .ok (.invokevirtual 248, 3) := by decide +kernel
theorem dX7_job_56 : decode cX7_job 56 = .ok (.iload_n 1, 1) := by decide +kernel
theorem dX7_job_57 : decode cX7_job 57 = .ok (.iload_n 2, 1) := by decide +kernel
theorem dX7_job_58 : decode cX7_job 58 = .ok (.invokevirtual 264, 3) := by decide +kernel
theorem dX7_job_61 : decode cX7_job 61 = .ok (.ireturn, 1) := by decide +kernel
theorem dX7_account_0 : decode cX7_account 0 = .ok (.iload_n 1, 1) := by decide +kernel
theorem dX7_account_1 : decode cX7_account 1 = .ok (.tableswitch 101 0 5 #[39, 47, 55, 71, 79, 90], 39) := by decide +kernel
theorem dX7_account_40 : decode cX7_account 40 = .ok (.aload_n 0, 1) := by decide +kernel
theorem dX7_account_41 : decode cX7_account 41 = .ok (.getfield 12, 3) := by decide +kernel
theorem dX7_account_44 : decode cX7_account 44 = .ok (.invokevirtual 225, 3) := by decide +kernel
theorem dX7_account_47 : decode cX7_account 47 = .ok (.ireturn, 1) := by decide +kernel
theorem dX7_account_48 : decode cX7_account 48 = .ok (.aload_n 0, 1) := by decide +kernel
theorem dX7_account_49 : decode cX7_account 49 = .ok (.getfield 12, 3) := by decide +kernel
theorem dX7_account_52 : decode cX7_account 52 = .ok (.invokevirtual 267, 3) := by decide +kernel
theorem dX7_account_55 : decode cX7_account 55 = .ok (.ireturn, 1) := by decide +kernel
theorem dX7_account_56 : decode cX7_account 56 = .ok (.aload_n 0, 1) := by decide +kernel
theorem dX7_account_57 : decode cX7_account 57 = .ok (.getfield 12, 3) := by decide +kernel
theorem dX7_account_60 : decode cX7_account 60 = .ok (.invokevirtual 267, 3) := by decide +kernel
theorem dX7_account_63 : decode cX7_account 63 = .ok (.aload_n 0, 1) := by decide +kernel
theorem dX7_account_64 : decode cX7_account 64 = .ok (.getfield 12, 3) := by decide +kernel
theorem dX7_account_67 : decode cX7_account 67 = .ok (.invokevirtual 159, 3) := by decide +kernel
theorem dX7_account_70 : decode cX7_account 70 = .ok (.isub, 1) := by decide +kernel
theorem dX7_account_71 : decode cX7_account 71 = .ok (.ireturn, 1) := by decide +kernel
theorem dX7_account_72 : decode cX7_account 72 = .ok (.aload_n 0, 1) := by decide +kernel
theorem dX7_account_73 : decode cX7_account 73 = .ok (.getfield 12, 3) := by decide +kernel
theorem dX7_account_76 : decode cX7_account 76 = .ok (.invokevirtual 270, 3) := by decide +kernel
theorem dX7_account_79 : decode cX7_account 79 = .ok (.ireturn, 1) := by decide +kernel
theorem dX7_account_80 : decode cX7_account 80 = .ok (.aload_n 0, 1) := by decide +kernel
theorem dX7_account_81 : decode cX7_account 81 = .ok (.getfield 12, 3) := by decide +kernel
theorem dX7_account_84 : decode cX7_account 84 = .ok (.invokevirtual 248, 3) := by decide +kernel
theorem dX7_account_87 : decode cX7_account 87 = .ok (.invokevirtual 273, 3) := by decide +kernel
theorem dX7_account_90 : decode cX7_account 90 = .ok (.ireturn, 1) := by decide +kernel
theorem dX7_account_91 : decode cX7_account 91 = .ok (.aload_n 0, 1) := by decide +kernel
theorem dX7_account_92 : decode cX7_account 92 = .ok (.getfield 12, 3) := by decide +kernel
theorem dX7_account_95 : decode cX7_account 95 = .ok (.invokevirtual 248, 3) := by decide +kernel
theorem dX7_account_98 : decode cX7_account 98 = .ok (.invokevirtual 274, 3) := by decide +kernel
theorem dX7_account_101 : decode cX7_account 101 = .ok (.ireturn, 1) := by decide +kernel
theorem dX7_account_102 : decode cX7_account 102 = .ok (.new 106, 3) := by decide +kernel
theorem dX7_account_105 : decode cX7_account 105 = .ok (.dup, 1) := by decide +kernel
theorem dX7_account_106 : decode cX7_account 106 = .ok (.ldc_w 277, 3) := by decide +kernel
theorem dX7_account_109 : decode cX7_account 109 = .ok (.invokespecial 110, 3) := by decide +kernel
theorem dX7_account_112 : decode cX7_account 112 = .ok (.athrow, 1) := by decide +kernel
theorem dX7_load_0 : decode cX7_load 0 = .ok (.aload_n 0, 1) := by decide +kernel
theorem dX7_load_1 : decode cX7_load 1 = .ok (.iload_n 1, 1) := by decide +kernel
theorem dX7_load_2 : decode cX7_load 2 = .ok (.invokevirtual 228, 3) := by decide +kernel
theorem dX7_load_5 : decode cX7_load 5 = .ok (.aload_n 0, 1) := by decide +kernel
theorem dX7_load_6 : decode cX7_load 6 = .ok (.getfield 12, 3) := by decide +kernel
theorem dX7_load_9 : decode cX7_load 9 = .ok (.iload_n 1, 1) := by decide +kernel
theorem dX7_load_10 : decode cX7_load 10 = .ok (.invokevirtual 231, 3) := by decide +kernel
theorem dX7_load_13 : decode cX7_load 13 = .ok (.astore_n 2, 1) := by decide +kernel
theorem dX7_load_14 : decode cX7_load 14 = .ok (.aload_n 2, 1) := by decide +kernel
theorem dX7_load_15 : decode cX7_load 15 = .ok (.invokevirtual 240, 3) := by decide +kernel
theorem dX7_load_18 : decode cX7_load 18 = .ok (.ifCond .ne 14, 3) := by decide +kernel
theorem dX7_load_21 : decode cX7_load 21 = .ok (.new 279, 3) := by decide +kernel
theorem dX7_load_24 : decode cX7_load 24 = .ok (.dup, 1) := by decide +kernel
theorem dX7_load_25 : decode cX7_load 25 = .ok (.ldc_w 281, 3) := by decide +kernel
theorem dX7_load_28 : decode cX7_load 28 = .ok (.invokespecial 283, 3) := by decide +kernel
theorem dX7_load_31 : decode cX7_load 31 = .ok (.athrow, 1) := by decide +kernel
theorem dX7_load_32 : decode cX7_load 32 = .ok (.aload_n 2, 1) := by decide +kernel
theorem dX7_load_33 : decode cX7_load 33 = .ok (.invokevirtual 243, 3) := by decide +kernel
theorem dX7_load_36 : decode cX7_load 36 = .ok (.i2f, 1) := by decide +kernel
theorem dX7_load_37 : decode cX7_load 37 = .ok (.aload_n 2, 1) := by decide +kernel
theorem dX7_load_38 : decode cX7_load 38 = .ok (.invokevirtual 240, 3) := by decide +kernel
theorem dX7_load_41 : decode cX7_load 41 = .ok (.i2f, 1) := by decide +kernel
theorem dX7_load_42 : decode cX7_load 42 = .ok (.fdiv, 1) := by decide +kernel
theorem dX7_load_43 : decode cX7_load 43 = .ok (.freturn, 1) := by decide +kernel
theorem dX7_meanJob_0 : decode cX7_meanJob 0 = .ok (.aload_n 0, 1) := by decide +kernel
theorem dX7_meanJob_1 : decode cX7_meanJob 1 = .ok (.getfield 12, 3) := by decide +kernel
theorem dX7_meanJob_4 : decode cX7_meanJob 4 = .ok (.invokevirtual 248, 3) := by decide +kernel
theorem dX7_meanJob_7 : decode cX7_meanJob 7 = .ok (.invokevirtual 284, 3) := by decide +kernel
theorem dX7_meanJob_10 : decode cX7_meanJob 10 = .ok (.ifCond .ne 14, 3) := by decide +kernel
theorem dX7_meanJob_13 : decode cX7_meanJob 13 = .ok (.new 279, 3) := by decide +kernel
theorem dX7_meanJob_16 : decode cX7_meanJob 16 = .ok (.dup, 1) := by decide +kernel
theorem dX7_meanJob_17 : decode cX7_meanJob 17 = .ok (.ldc_w 287, 3) := by decide +kernel
theorem dX7_meanJob_20 : decode cX7_meanJob 20 = .ok (.invokespecial 283, 3) := by decide +kernel
theorem dX7_meanJob_23 : decode cX7_meanJob 23 = .ok (.athrow, 1) := by decide +kernel
theorem dX7_meanJob_24 : decode cX7_meanJob 24 = .ok (.aload_n 0, 1) := by decide +kernel
theorem dX7_meanJob_25 : decode cX7_meanJob 25 = .ok (.getfield 12, 3) := by decide +kernel
theorem dX7_meanJob_28 : decode cX7_meanJob 28 = .ok (.invokevirtual 248, 3) := by decide +kernel
theorem dX7_meanJob_31 : decode cX7_meanJob 31 = .ok (.invokevirtual 273, 3) := by decide +kernel
theorem dX7_meanJob_34 : decode cX7_meanJob 34 = .ok (.i2d, 1) := by decide +kernel
theorem dX7_meanJob_35 : decode cX7_meanJob 35 = .ok (.aload_n 0, 1) := by decide +kernel
theorem dX7_meanJob_36 : decode cX7_meanJob 36 = .ok (.getfield 12, 3) := by decide +kernel
theorem dX7_meanJob_39 : decode cX7_meanJob 39 = .ok (.invokevirtual 248, 3) := by decide +kernel
theorem dX7_meanJob_42 : decode cX7_meanJob 42 = .ok (.invokevirtual 284, 3) := by decide +kernel
theorem dX7_meanJob_45 : decode cX7_meanJob 45 = .ok (.i2d, 1) := by decide +kernel
theorem dX7_meanJob_46 : decode cX7_meanJob 46 = .ok (.ddiv, 1) := by decide +kernel
theorem dX7_meanJob_47 : decode cX7_meanJob 47 = .ok (.dreturn, 1) := by decide +kernel
theorem dX7_report_0 : decode cX7_report 0 = .ok (.aload_n 0, 1) := by decide +kernel
theorem dX7_report_1 : decode cX7_report 1 = .ok (.getfield 289, 3) := by decide +kernel
theorem dX7_report_4 : decode cX7_report 4 = .ok (.ifCond .eq 12, 3) := by decide +kernel
theorem dX7_report_7 : decode cX7_report 7 = .ok (.iload_n 1, 1) := by decide +kernel
theorem dX7_report_8 : decode cX7_report 8 = .ok (.ifCond .lt 8, 3) := by decide +kernel
theorem dX7_report_11 : decode cX7_report 11 = .ok (.iload_n 1, 1) := by decide +kernel
theorem dX7_report_12 : decode cX7_report 12 = .ok (.iconst 3, 1) := by decide +kernel
theorem dX7_report_13 : decode cX7_report 13 = .ok (.if_icmp .lt 14, 3) := by decide +kernel
theorem dX7_report_16 : decode cX7_report 16 = .ok (.new 153, 3) := by decide +kernel
theorem dX7_report_19 : decode cX7_report 19 = .ok (.dup, 1) := by decide +kernel
theorem dX7_report_20 : decode cX7_report 20 = .ok (.ldc_w 293, 3) := by decide +kernel
theorem dX7_report_23 : decode cX7_report 23 = .ok (.invokespecial 155, 3) := by decide +kernel
theorem dX7_report_26 : decode cX7_report 26 = .ok (.athrow, 1) := by decide +kernel
theorem dX7_report_27 : decode cX7_report 27 = .ok (.iload_n 2, 1) := by decide +kernel
theorem dX7_report_28 : decode cX7_report 28 = .ok (.lookupswitch 39 #[(0, 28), (1, 32)], 28) := by decide +kernel
theorem dX7_report_56 : decode cX7_report 56 = .ok (.iload_n 1, 1) := by decide +kernel
theorem dX7_report_57 : decode cX7_report 57 = .ok (.iconst 1, 1) := by decide +kernel
theorem dX7_report_58 : decode cX7_report 58 = .ok (.iadd, 1) := by decide +kernel
theorem dX7_report_59 : decode cX7_report 59 = .ok (.ireturn, 1) := by decide +kernel
theorem dX7_report_60 : decode cX7_report 60 = .ok (.aload_n 0, 1) := by decide +kernel
theorem dX7_report_61 : decode cX7_report 61 = .ok (.getfield 40, 3) := by decide +kernel
theorem dX7_report_64 : decode cX7_report 64 = .ok (.iload_n 1, 1) := by decide +kernel
theorem dX7_report_65 : decode cX7_report 65 = .ok (.iaload, 1) := by decide +kernel
theorem dX7_report_66 : decode cX7_report 66 = .ok (.ireturn, 1) := by decide +kernel
theorem dX7_report_67 : decode cX7_report 67 = .ok (.new 106, 3) := by decide +kernel
theorem dX7_report_70 : decode cX7_report 70 = .ok (.dup, 1) := by decide +kernel
theorem dX7_report_71 : decode cX7_report 71 = .ok (.ldc_w 295, 3) := by decide +kernel
theorem dX7_report_74 : decode cX7_report 74 = .ok (.invokespecial 110, 3) := by decide +kernel
theorem dX7_report_77 : decode cX7_report 77 = .ok (.athrow, 1) := by decide +kernel
theorem dX7_feed_0 : decode cX7_feed 0 = .ok (.aload_n 0, 1) := by decide +kernel
theorem dX7_feed_1 : decode cX7_feed 1 = .ok (.getfield 36, 3) := by decide +kernel
theorem dX7_feed_4 : decode cX7_feed 4 = .ok (.iload_n 1, 1) := by decide +kernel
theorem dX7_feed_5 : decode cX7_feed 5 = .ok (.invokevirtual 297, 3) := by decide +kernel
theorem dX7_feed_8 : decode cX7_feed 8 = .ok (.ifCond .ne 14, 3) := by decide +kernel
theorem dX7_feed_11 : decode cX7_feed 11 = .ok (.new 52, 3) := by decide +kernel
theorem dX7_feed_14 : decode cX7_feed 14 = .ok (.dup, 1) := by decide +kernel
theorem dX7_feed_15 : decode cX7_feed 15 = .ok (.ldc_w 301, 3) := by decide +kernel
theorem dX7_feed_18 : decode cX7_feed 18 = .ok (.invokespecial 56, 3) := by decide +kernel
theorem dX7_feed_21 : decode cX7_feed 21 = .ok (.athrow, 1) := by decide +kernel
theorem dX7_feed_22 : decode cX7_feed 22 = .ok (.aload_n 0, 1) := by decide +kernel
theorem dX7_feed_23 : decode cX7_feed 23 = .ok (.getfield 36, 3) := by decide +kernel
theorem dX7_feed_26 : decode cX7_feed 26 = .ok (.invokevirtual 303, 3) := by decide +kernel
theorem dX7_feed_29 : decode cX7_feed 29 = .ok (.ireturn, 1) := by decide +kernel
theorem dX7_perform_0 : decode cX7_perform 0 = .ok (.aload_n 0, 1) := by decide +kernel
theorem dX7_perform_1 : decode cX7_perform 1 = .ok (.getfield 36, 3) := by decide +kernel
theorem dX7_perform_4 : decode cX7_perform 4 = .ok (.invokevirtual 306, 3) := by decide +kernel
theorem dX7_perform_7 : decode cX7_perform 7 = .ok (.istore_n 1, 1) := by decide +kernel
theorem dX7_perform_8 : decode cX7_perform 8 = .ok (.aload_n 0, 1) := by decide +kernel
theorem dX7_perform_9 : decode cX7_perform 9 = .ok (.getfield 36, 3) := by decide +kernel
theorem dX7_perform_12 : decode cX7_perform 12 = .ok (.invokevirtual 309, 3) := by decide +kernel
theorem dX7_perform_15 : decode cX7_perform 15 = .ok (.iload_n 1, 1) := by decide +kernel
theorem dX7_perform_16 : decode cX7_perform 16 = .ok (.iconst (-1), 1) := by decide +kernel
theorem dX7_perform_17 : decode cX7_perform 17 = .ok (.if_icmp .eq 8, 3) := by decide +kernel
theorem dX7_perform_20 : decode cX7_perform 20 = .ok (.bipush (-100), 2) := by decide +kernel
theorem dX7_perform_22 : decode cX7_perform 22 = .ok (.iload_n 1, 1) := by decide +kernel
theorem dX7_perform_23 : decode cX7_perform 23 = .ok (.isub, 1) := by decide +kernel
theorem dX7_perform_24 : decode cX7_perform 24 = .ok (.ireturn, 1) := by decide +kernel
theorem dX7_perform_25 : decode cX7_perform 25 = .ok (.aload_n 0, 1) := by decide +kernel
theorem dX7_perform_26 : decode cX7_perform 26 = .ok (.getfield 22, 3) := by decide +kernel
theorem dX7_perform_29 : decode cX7_perform 29 = .ok (.aload_n 0, 1) := by decide +kernel
theorem dX7_perform_30 : decode cX7_perform 30 = .ok (.getfield 12, 3) := by decide +kernel
theorem dX7_perform_33 : decode cX7_perform 33 = .ok (.invokevirtual 59, 3) := by decide +kernel
theorem dX7_perform_36 : decode cX7_perform 36 = .ok (.iconst 0, 1) := by decide +kernel
theorem dX7_perform_37 : decode cX7_perform 37 = .ok (.istore_n 2, 1) := by decide +kernel
theorem dX7_perform_38 : decode cX7_perform 38 = .ok (.iload_n 2, 1) := by decide +kernel
theorem dX7_perform_39 : decode cX7_perform 39 = .ok (.aload_n 0, 1) := by decide +kernel
theorem dX7_perform_40 : decode cX7_perform 40 = .ok (.getfield 36, 3) := by decide +kernel
theorem dX7_perform_43 : decode cX7_perform 43 = .ok (.invokevirtual 312, 3) := by decide +kernel
theorem dX7_perform_46 : decode cX7_perform 46 = .ok (.if_icmp .ge 62, 3) := by decide +kernel
theorem dX7_perform_49 : decode cX7_perform 49 = .ok (.aload_n 0, 1) := by decide +kernel
theorem dX7_perform_50 : decode cX7_perform 50 = .ok (.aload_n 0, 1) := by decide +kernel
theorem dX7_perform_51 : decode cX7_perform 51 = .ok (.getfield 36, 3) := by decide +kernel
theorem dX7_perform_54 : decode cX7_perform 54 = .ok (.iload_n 2, 1) := by decide +kernel
theorem dX7_perform_55 : decode cX7_perform 55 = .ok (.invokevirtual 315, 3) := by decide +kernel
theorem dX7_perform_58 : decode cX7_perform 58 = .ok (.aload_n 0, 1) := by decide +kernel
theorem dX7_perform_59 : decode cX7_perform 59 = .ok (.getfield 36, 3) := by decide +kernel
theorem dX7_perform_62 : decode cX7_perform 62 = .ok (.iload_n 2, 1) := by decide +kernel
theorem dX7_perform_63 : decode cX7_perform 63 = .ok (.invokevirtual 319, 3) := by decide +kernel
theorem dX7_perform_66 : decode cX7_perform 66 = .ok (.aload_n 0, 1) := by decide +kernel
theorem dX7_perform_67 : decode cX7_perform 67 = .ok (.getfield 36, 3) := by decide +kernel
theorem dX7_perform_70 : decode cX7_perform 70 = .ok (.iload_n 2, 1) := by decide +kernel
theorem dX7_perform_71 : decode cX7_perform 71 = .ok (.invokevirtual 320, 3) := by decide +kernel
theorem dX7_perform_74 : decode cX7_perform 74 = .ok (.invokevirtual 323, 3) := by decide +kernel
theorem dX7_perform_77 : decode cX7_perform 77 = .ok (.ifCond .ne 25, 3) := by decide +kernel
theorem dX7_perform_80 : decode cX7_perform 80 = .ok (.aload_n 0, 1) := by decide +kernel
theorem dX7_perform_81 : decode cX7_perform 81 = .ok (.getfield 22, 3) := by decide +kernel
theorem dX7_perform_84 : decode cX7_perform 84 = .ok (.aload_n 0, 1) := by decide +kernel
theorem dX7_perform_85 : decode cX7_perform 85 = .ok (.getfield 12, 3) := by decide +kernel
theorem dX7_perform_88 : decode cX7_perform 88 = .ok (.invokevirtual 327, 3) := by decide +kernel
theorem dX7_perform_91 : decode cX7_perform 91 = .ok (.new 67, 3) := by decide +kernel
theorem dX7_perform_94 : decode cX7_perform 94 = .ok (.dup, 1) := by decide +kernel
theorem dX7_perform_95 : decode cX7_perform 95 = .ok (.ldc_w 330, 3) := by decide +kernel
theorem dX7_perform_98 : decode cX7_perform 98 = .ok (.invokespecial 71, 3) := by decide +kernel
theorem dX7_perform_101 : decode cX7_perform 101 = .ok (.athrow, 1) := by decide +kernel
theorem dX7_perform_102 : decode cX7_perform 102 = .ok (.iinc 2 1, 3) := by decide +kernel
theorem dX7_perform_105 : decode cX7_perform 105 = .ok (.goto (-67), 3) := by decide +kernel
theorem dX7_perform_108 : decode cX7_perform 108 = .ok (.aload_n 0, 1) := by decide +kernel
theorem dX7_perform_109 : decode cX7_perform 109 = .ok (.getfield 22, 3) := by decide +kernel
theorem dX7_perform_112 : decode cX7_perform 112 = .ok (.invokevirtual 72, 3) := by decide +kernel
theorem dX7_perform_115 : decode cX7_perform 115 = .ok (.aload_n 0, 1) := by decide +kernel
theorem dX7_perform_116 : decode cX7_perform 116 = .ok (.getfield 36, 3) := by decide +kernel
theorem dX7_perform_119 : decode cX7_perform 119 = .ok (.invokevirtual 312, 3) := by decide +kernel
theorem dX7_perform_122 : decode cX7_perform 122 = .ok (.ireturn, 1) := by decide +kernel
theorem dX7_undo_0 : decode cX7_undo 0 = .ok (.aload_n 0, 1) := by decide +kernel
theorem dX7_undo_1 : decode cX7_undo 1 = .ok (.getfield 22, 3) := by decide +kernel
theorem dX7_undo_4 : decode cX7_undo 4 = .ok (.invokevirtual 332, 3) := by decide +kernel
theorem dX7_undo_7 : decode cX7_undo 7 = .ok (.ifCond .ne 14, 3) := by decide +kernel
theorem dX7_undo_10 : decode cX7_undo 10 = .ok (.new 52, 3) := by decide +kernel
theorem dX7_undo_13 : decode cX7_undo 13 = .ok (.dup, 1) := by decide +kernel
theorem dX7_undo_14 : decode cX7_undo 14 = .ok (.ldc_w 335, 3) := by decide +kernel
theorem dX7_undo_17 : decode cX7_undo 17 = .ok (.invokespecial 56, 3) := by decide +kernel
theorem dX7_undo_20 : decode cX7_undo 20 = .ok (.athrow, 1) := by decide +kernel
theorem dX7_undo_21 : decode cX7_undo 21 = .ok (.aload_n 0, 1) := by decide +kernel
theorem dX7_undo_22 : decode cX7_undo 22 = .ok (.getfield 22, 3) := by decide +kernel
theorem dX7_undo_25 : decode cX7_undo 25 = .ok (.aload_n 0, 1) := by decide +kernel
theorem dX7_undo_26 : decode cX7_undo 26 = .ok (.getfield 12, 3) := by decide +kernel
theorem dX7_undo_29 : decode cX7_undo 29 = .ok (.invokevirtual 337, 3) := by decide +kernel
theorem dX7_undo_32 : decode cX7_undo 32 = .ok (.aload_n 0, 1) := by decide +kernel
theorem dX7_undo_33 : decode cX7_undo 33 = .ok (.getfield 22, 3) := by decide +kernel
theorem dX7_undo_36 : decode cX7_undo 36 = .ok (.invokevirtual 332, 3) := by decide +kernel
theorem dX7_undo_39 : decode cX7_undo 39 = .ok (.ireturn, 1) := by decide +kernel
theorem dX7_save_0 : decode cX7_save 0 = .ok (.aload_n 0, 1) := by decide +kernel
theorem dX7_save_1 : decode cX7_save 1 = .ok (.getfield 16, 3) := by decide +kernel
theorem dX7_save_4 : decode cX7_save 4 = .ok (.aload_n 0, 1) := by decide +kernel
theorem dX7_save_5 : decode cX7_save 5 = .ok (.getfield 12, 3) := by decide +kernel
theorem dX7_save_8 : decode cX7_save 8 = .ok (.invokevirtual 340, 3) := by decide +kernel
theorem dX7_save_11 : decode cX7_save 11 = .ok (.aload_n 0, 1) := by decide +kernel
theorem dX7_save_12 : decode cX7_save 12 = .ok (.iconst 1, 1) := by decide +kernel
theorem dX7_save_13 : decode cX7_save 13 = .ok (.putfield 343, 3) := by decide +kernel
theorem dX7_save_16 : decode cX7_save 16 = .ok (.aload_n 0, 1) := by decide +kernel
theorem dX7_save_17 : decode cX7_save 17 = .ok (.getfield 12, 3) := by decide +kernel
theorem dX7_save_20 : decode cX7_save 20 = .ok (.invokevirtual 159, 3) := by decide +kernel
theorem dX7_save_23 : decode cX7_save 23 = .ok (.ireturn, 1) := by decide +kernel
theorem dX7_restore_0 : decode cX7_restore 0 = .ok (.aload_n 0, 1) := by decide +kernel
theorem dX7_restore_1 : decode cX7_restore 1 = .ok (.getfield 343, 3) := by decide +kernel
theorem dX7_restore_4 : decode cX7_restore 4 = .ok (.ifCond .ne 14, 3) := by decide +kernel
theorem dX7_restore_7 : decode cX7_restore 7 = .ok (.new 52, 3) := by decide +kernel
theorem dX7_restore_10 : decode cX7_restore 10 = .ok (.dup, 1) := by decide +kernel
theorem dX7_restore_11 : decode cX7_restore 11 = .ok (.ldc_w 346, 3) := by decide +kernel
theorem dX7_restore_14 : decode cX7_restore 14 = .ok (.invokespecial 56, 3) := by decide +kernel
theorem dX7_restore_17 : decode cX7_restore 17 = .ok (.athrow, 1) := by decide +kernel
theorem dX7_restore_18 : decode cX7_restore 18 = .ok (.aload_n 0, 1) := by decide +kernel
theorem dX7_restore_19 : decode cX7_restore 19 = .ok (.getfield 12, 3) := by decide +kernel
theorem dX7_restore_22 : decode cX7_restore 22 = .ok (.aload_n 0, 1) := by decide +kernel
theorem dX7_restore_23 : decode cX7_restore 23 = .ok (.getfield 16, 3) := by decide +kernel
theorem dX7_restore_26 : decode cX7_restore 26 = .ok (.invokevirtual 340, 3) := by decide +kernel
theorem dX7_restore_29 : decode cX7_restore 29 = .ok (.aload_n 0, 1) := by decide +kernel
theorem dX7_restore_30 : decode cX7_restore 30 = .ok (.getfield 22, 3) := by decide +kernel
theorem dX7_restore_33 : decode cX7_restore 33 = .ok (.invokevirtual 348, 3) := by decide +kernel
theorem dX7_restore_36 : decode cX7_restore 36 = .ok (.aload_n 0, 1) := by decide +kernel
theorem dX7_restore_37 : decode cX7_restore 37 = .ok (.getfield 12, 3) := by decide +kernel
theorem dX7_restore_40 : decode cX7_restore 40 = .ok (.invokevirtual 159, 3) := by decide +kernel
theorem dX7_restore_43 : decode cX7_restore 43 = .ok (.ireturn, 1) := by decide +kernel
theorem dX7_fetchOrReport_0 : decode cX7_fetchOrReport 0 = .ok (.aload_n 0, 1) := by decide +kernel
theorem dX7_fetchOrReport_1 : decode cX7_fetchOrReport 1 = .ok (.getfield 12, 3) := by decide +kernel
theorem dX7_fetchOrReport_4 : decode cX7_fetchOrReport 4 = .ok (.iload_n 1, 1) := by decide +kernel
theorem dX7_fetchOrReport_5 : decode cX7_fetchOrReport 5 = .ok (.invokevirtual 209, 3) := by decide +kernel
theorem dX7_fetchOrReport_8 : decode cX7_fetchOrReport 8 = .ok (.istore_n 2, 1) := by decide +kernel
theorem dX7_fetchOrReport_9 : decode cX7_fetchOrReport 9 = .ok (.iload_n 2, 1) := by decide +kernel
theorem dX7_fetchOrReport_10 : decode cX7_fetchOrReport 10 = .ok (.ifCond .ne 43, 3) := by decide +kernel
theorem dX7_fetchOrReport_13 : decode cX7_fetchOrReport 13 = .ok (.aload_n 0, 1) := by decide +kernel
theorem dX7_fetchOrReport_14 : decode cX7_fetchOrReport 14 = .ok (.getfield 40, 3) := by decide +kernel
theorem dX7_fetchOrReport_17 : decode cX7_fetchOrReport 17 = .ok (.iconst 0, 1) := by decide +kernel
theorem dX7_fetchOrReport_18 : decode cX7_fetchOrReport 18 = .ok (.iload_n 1, 1) := by decide +kernel
theorem dX7_fetchOrReport_19 : decode cX7_fetchOrReport 19 = .ok (.iastore, 1) := by decide +kernel
theorem dX7_fetchOrReport_20 : decode cX7_fetchOrReport 20 = .ok (.aload_n 0, 1) := by decide +kernel
theorem dX7_fetchOrReport_21 : decode cX7_fetchOrReport 21 = .ok (.getfield 40, 3) := by decide +kernel
theorem dX7_fetchOrReport_24 : decode cX7_fetchOrReport 24 = .ok (.iconst 1, 1) := by decide +kernel
theorem dX7_fetchOrReport_25 : decode cX7_fetchOrReport 25 = .ok (.aload_n 0, 1) := by decide +kernel
theorem dX7_fetchOrReport_26 : decode cX7_fetchOrReport 26 = .ok (.getfield 12, 3) := by decide +kernel
theorem dX7_fetchOrReport_29 : decode cX7_fetchOrReport 29 = .ok (.iload_n 1, 1) := by decide +kernel
theorem dX7_fetchOrReport_30 : decode cX7_fetchOrReport 30 = .ok (.invokevirtual 100, 3) := by decide +kernel
theorem dX7_fetchOrReport_33 : decode cX7_fetchOrReport 33 = .ok (.iastore, 1) := by decide +kernel
theorem dX7_fetchOrReport_34 : decode cX7_fetchOrReport 34 = .ok (.aload_n 0, 1) := by decide +kernel
theorem dX7_fetchOrReport_35 : decode cX7_fetchOrReport 35 = .ok (.getfield 40, 3) := by decide +kernel
theorem dX7_fetchOrReport_38 : decode cX7_fetchOrReport 38 = .ok (.iconst 2, 1) := by decide +kernel
theorem dX7_fetchOrReport_39 : decode cX7_fetchOrReport 39 = .ok (.aload_n 0, 1) := by decide +kernel
theorem dX7_fetchOrReport_40 : decode cX7_fetchOrReport 40 = .ok (.getfield 12, 3) := by decide +kernel
theorem dX7_fetchOrReport_43 : decode cX7_fetchOrReport 43 = .ok (.iconst 0, 1) := by decide +kernel
theorem dX7_fetchOrReport_44 : decode cX7_fetchOrReport 44 = .ok (.invokevirtual 163, 3) := by decide +kernel
theorem dX7_fetchOrReport_47 : decode cX7_fetchOrReport 47 = .ok (.iastore, 1) := by decide +kernel
theorem dX7_fetchOrReport_48 : decode cX7_fetchOrReport 48 = .ok (.aload_n 0, 1) := by decide +kernel
theorem dX7_fetchOrReport_49 : decode cX7_fetchOrReport 49 = .ok (.iconst 1, 1) := by decide +kernel
theorem dX7_fetchOrReport_50 : decode cX7_fetchOrReport 50 = .ok (.putfield 289, 3) := by decide +kernel
theorem dX7_fetchOrReport_53 : decode cX7_fetchOrReport 53 = .ok (.iload_n 2, 1) := by decide +kernel
theorem dX7_fetchOrReport_54 : decode cX7_fetchOrReport 54 = .ok (.ireturn, 1) := by decide +kernel
theorem dX7_carryOut_0 : decode cX7_carryOut 0 = .ok (.iload_n 1, 1) := by decide +kernel
theorem dX7_carryOut_1 : decode cX7_carryOut 1 = .ok (.bipush 115, 2) := by decide +kernel
theorem dX7_carryOut_3 : decode cX7_carryOut 3 = .ok (.if_icmp .ne 32, 3) := by decide +kernel
theorem dX7_carryOut_6 : decode cX7_carryOut 6 = .ok (.aload_n 0, 1) := by decide +kernel
theorem dX7_carryOut_7 : decode cX7_carryOut 7 = .ok (.getfield 12, 3) := by decide +kernel
theorem dX7_carryOut_10 : decode cX7_carryOut 10 = .ok (.invokevirtual 48, 3) := by decide +kernel
theorem dX7_carryOut_13 : decode cX7_carryOut 13 = .ok (.ifCond .ne 20, 3) := by decide +kernel
theorem dX7_carryOut_16 : decode cX7_carryOut 16 = .ok (.aload_n 0, 1) := by decide +kernel
theorem dX7_carryOut_17 : decode cX7_carryOut 17 = .ok (.getfield 12, 3) := by decide +kernel
theorem dX7_carryOut_20 : decode cX7_carryOut 20 = .ok (.iload_n 2, 1) := by decide +kernel
theorem dX7_carryOut_21 : decode cX7_carryOut 21 = .ok (.iload_n 3, 1) := by decide +kernel
theorem dX7_carryOut_22 : decode cX7_carryOut 22 = .ok (.invokevirtual 63, 3) := by decide +kernel
theorem dX7_carryOut_25 : decode cX7_carryOut 25 = .ok (.iconst (-1), 1) := by decide +kernel
theorem dX7_carryOut_26 : decode cX7_carryOut 26 = .ok (.if_icmp .eq 7, 3) := by decide +kernel
theorem dX7_carryOut_29 : decode cX7_carryOut 29 = .ok (.iconst 1, 1) := by decide +kernel
theorem dX7_carryOut_30 : decode cX7_carryOut 30 = .ok (.goto 4, 3) := by decide +kernel
theorem dX7_carryOut_33 : decode cX7_carryOut 33 = .ok (.iconst 0, 1) := by decide +kernel
theorem dX7_carryOut_34 : decode cX7_carryOut 34 = .ok (.ireturn, 1) := by decide +kernel
theorem dX7_carryOut_35 : decode cX7_carryOut 35 = .ok (.iload_n 1, 1) := by decide +kernel
theorem dX7_carryOut_36 : decode cX7_carryOut 36 = .ok (.bipush 114, 2) := by decide +kernel
theorem dX7_carryOut_38 : decode cX7_carryOut 38 = .ok (.if_icmp .ne 28, 3) := by decide +kernel
theorem dX7_carryOut_41 : decode cX7_carryOut 41 = .ok (.aload_n 0, 1) := by decide +kernel
theorem dX7_carryOut_42 : decode cX7_carryOut 42 = .ok (.getfield 12, 3) := by decide +kernel
theorem dX7_carryOut_45 : decode cX7_carryOut 45 = .ok (.iload_n 3, 1) := by decide +kernel
theorem dX7_carryOut_46 : decode cX7_carryOut 46 = .ok (.invokevirtual 351, 3) := by decide +kernel
theorem dX7_carryOut_49 : decode cX7_carryOut 49 = .ok (.ifCond .eq 15, 3) := by decide +kernel
theorem dX7_carryOut_52 : decode cX7_carryOut 52 = .ok (.aload_n 0, 1) := by decide +kernel
theorem dX7_carryOut_53 : decode cX7_carryOut 53 = .ok (.iload_n 3, 1) := by decide +kernel
theorem dX7_carryOut_54 : decode cX7_carryOut 54 = .ok (.invokevirtual 79, 3) := by decide +kernel
theorem dX7_carryOut_57 : decode cX7_carryOut 57 = .ok (.ifCond .eq 7, 3) := by decide +kernel
theorem dX7_carryOut_60 : decode cX7_carryOut 60 = .ok (.iconst 1, 1) := by decide +kernel
theorem dX7_carryOut_61 : decode cX7_carryOut 61 = .ok (.goto 4, 3) := by decide +kernel
theorem dX7_carryOut_64 : decode cX7_carryOut 64 = .ok (.iconst 0, 1) := by decide +kernel
theorem dX7_carryOut_65 : decode cX7_carryOut 65 = .ok (.ireturn, 1) := by decide +kernel
theorem dX7_carryOut_66 : decode cX7_carryOut 66 = .ok (.iload_n 1, 1) := by decide +kernel
theorem dX7_carryOut_67 : decode cX7_carryOut 67 = .ok (.bipush 116, 2) := by decide +kernel
theorem dX7_carryOut_69 : decode cX7_carryOut 69 = .ok (.if_icmp .ne 27, 3) := by decide +kernel
theorem dX7_carryOut_72 : decode cX7_carryOut 72 = .ok (.iload_n 3, 1) := by decide +kernel
theorem dX7_carryOut_73 : decode cX7_carryOut 73 = .ok (.invokestatic 215, 3) := by decide +kernel
theorem dX7_carryOut_76 : decode cX7_carryOut 76 = .ok (.ifCond .eq 18, 3) := by decide +kernel
theorem dX7_carryOut_79 : decode cX7_carryOut 79 = .ok (.aload_n 0, 1) := by decide +kernel
theorem dX7_carryOut_80 : decode cX7_carryOut 80 = .ok (.getfield 12, 3) := by decide +kernel
theorem dX7_carryOut_83 : decode cX7_carryOut 83 = .ok (.iload_n 3, 1) := by decide +kernel
theorem dX7_carryOut_84 : decode cX7_carryOut 84 = .ok (.invokevirtual 220, 3) := by decide +kernel
theorem dX7_carryOut_87 : decode cX7_carryOut 87 = .ok (.ifCond .eq 7, 3) := by decide +kernel
theorem dX7_carryOut_90 : decode cX7_carryOut 90 = .ok (.iconst 1, 1) := by decide +kernel
theorem dX7_carryOut_91 : decode cX7_carryOut 91 = .ok (.goto 4, 3) := by decide +kernel
theorem dX7_carryOut_94 : decode cX7_carryOut 94 = .ok (.iconst 0, 1) := by decide +kernel
theorem dX7_carryOut_95 : decode cX7_carryOut 95 = .ok (.ireturn, 1) := by decide +kernel
theorem dX7_carryOut_96 : decode cX7_carryOut 96 = .ok (.iload_n 3, 1) := by decide +kernel
theorem dX7_carryOut_97 : decode cX7_carryOut 97 = .ok (.invokestatic 354, 3) := by decide +kernel
theorem dX7_carryOut_100 : decode cX7_carryOut 100 = .ok (.ifCond .ne 5, 3) := by decide +kernel
theorem dX7_carryOut_103 : decode cX7_carryOut 103 = .ok (.iconst 0, 1) := by decide +kernel
theorem dX7_carryOut_104 : decode cX7_carryOut 104 = .ok (.ireturn, 1) := by decide +kernel
theorem dX7_carryOut_105 : decode cX7_carryOut 105 = .ok (.aload_n 0, 1) := by decide +kernel
theorem dX7_carryOut_106 : decode cX7_carryOut 106 = .ok (.getfield 12, 3) := by decide +kernel
theorem dX7_carryOut_109 : decode cX7_carryOut 109 = .ok (.iload_n 3, 1) := by decide +kernel
theorem dX7_carryOut_110 : decode cX7_carryOut 110 = .ok (.iload_n 1, 1) := by decide +kernel
theorem dX7_carryOut_111 : decode cX7_carryOut 111 = .ok (.bipush 99, 2) := by decide +kernel
theorem dX7_carryOut_113 : decode cX7_carryOut 113 = .ok (.if_icmp .ne 7, 3) := by decide +kernel
theorem dX7_carryOut_116 : decode cX7_carryOut 116 = .ok (.iconst 1, 1) := by decide +kernel
theorem dX7_carryOut_117 : decode cX7_carryOut 117 = .ok (.goto 4, 3) := by decide +kernel
theorem dX7_carryOut_120 : decode cX7_carryOut 120 = .ok (.iconst 0, 1) := by decide +kernel
theorem dX7_carryOut_121 : decode cX7_carryOut 121 = .ok (.invokevirtual 118, 3) := by decide +kernel
theorem dX7_carryOut_124 : decode cX7_carryOut 124 = .ok (.pop, 1) := by decide +kernel
theorem dX7_carryOut_125 : decode cX7_carryOut 125 = .ok (.iconst 1, 1) := by decide +kernel
theorem dX7_carryOut_126 : decode cX7_carryOut 126 = .ok (.ireturn, 1) := by decide +kernel
theorem dX7_checkSizeAndPickup_0 : decode cX7_checkSizeAndPickup 0 = .ok (.iload_n 1, 1) := by decide +kernel
theorem dX7_checkSizeAndPickup_1 : decode cX7_checkSizeAndPickup 1 = .ok (.ifCond .lt 15, 3) := by decide +kernel
theorem dX7_checkSizeAndPickup_4 : decode cX7_checkSizeAndPickup 4 = .ok (.iload_n 1, 1) := by decide +kernel
theorem dX7_checkSizeAndPickup_5 : decode cX7_checkSizeAndPickup 5 = .ok (.iconst 1, 1) := by decide +kernel
theorem dX7_checkSizeAndPickup_6 : decode cX7_checkSizeAndPickup 6 = .ok (.if_icmp .gt 10, 3) := by decide +kernel
theorem dX7_checkSizeAndPickup_9 : decode cX7_checkSizeAndPickup 9 = .ok (.iload_n 2, 1) := by decide +kernel
theorem dX7_checkSizeAndPickup_10 : decode cX7_checkSizeAndPickup 10 = .ok (.invokestatic 357, 3) := by decide +kernel
theorem dX7_checkSizeAndPickup_13 : decode cX7_checkSizeAndPickup 13 = .ok (.ifCond .ne 14, 3) := by decide +kernel
theorem dX7_checkSizeAndPickup_16 : decode cX7_checkSizeAndPickup 16 = .ok (.new 106, 3) := by decide +kernel
theorem dX7_checkSizeAndPickup_19 : decode cX7_checkSizeAndPickup 19 = .ok (.dup, 1) := by decide +kernel
theorem dX7_checkSizeAndPickup_20 : decode cX7_checkSizeAndPickup 20 = .ok (.ldc_w 360, 3) := by decide +kernel
theorem dX7_checkSizeAndPickup_23 : decode cX7_checkSizeAndPickup 23 = .ok (.invokespecial 110, 3) := by decide +kernel
theorem dX7_checkSizeAndPickup_26 : decode cX7_checkSizeAndPickup 26 = .ok (.athrow, 1) := by decide +kernel
theorem dX7_checkSizeAndPickup_27 : decode cX7_checkSizeAndPickup 27 = .ok (.return_, 1) := by decide +kernel
theorem dX7_checkTime_0 : decode cX7_checkTime 0 = .ok (.iload_n 1, 1) := by decide +kernel
theorem dX7_checkTime_1 : decode cX7_checkTime 1 = .ok (.invokestatic 357, 3) := by decide +kernel
theorem dX7_checkTime_4 : decode cX7_checkTime 4 = .ok (.ifCond .ne 14, 3) := by decide +kernel
theorem dX7_checkTime_7 : decode cX7_checkTime 7 = .ok (.new 106, 3) := by decide +kernel
theorem dX7_checkTime_10 : decode cX7_checkTime 10 = .ok (.dup, 1) := by decide +kernel
theorem dX7_checkTime_11 : decode cX7_checkTime 11 = .ok (.ldc_w 362, 3) := by decide +kernel
theorem dX7_checkTime_14 : decode cX7_checkTime 14 = .ok (.invokespecial 110, 3) := by decide +kernel
theorem dX7_checkTime_17 : decode cX7_checkTime 17 = .ok (.athrow, 1) := by decide +kernel
theorem dX7_checkTime_18 : decode cX7_checkTime 18 = .ok (.return_, 1) := by decide +kernel
theorem dX7_checkStored_0 : decode cX7_checkStored 0 = .ok (.aload_n 0, 1) := by decide +kernel
theorem dX7_checkStored_1 : decode cX7_checkStored 1 = .ok (.getfield 12, 3) := by decide +kernel
theorem dX7_checkStored_4 : decode cX7_checkStored 4 = .ok (.iload_n 1, 1) := by decide +kernel
theorem dX7_checkStored_5 : decode cX7_checkStored 5 = .ok (.invokevirtual 351, 3) := by decide +kernel
theorem dX7_checkStored_8 : decode cX7_checkStored 8 = .ok (.ifCond .ne 14, 3) := by decide +kernel
theorem dX7_checkStored_11 : decode cX7_checkStored 11 = .ok (.new 257, 3) := by decide +kernel
theorem dX7_checkStored_14 : decode cX7_checkStored 14 = .ok (.dup, 1) := by decide +kernel
theorem dX7_checkStored_15 : decode cX7_checkStored 15 = .ok (.ldc_w 364, 3) := by decide +kernel
theorem dX7_checkStored_18 : decode cX7_checkStored 18 = .ok (.invokespecial 261, 3) := by decide +kernel
theorem dX7_checkStored_21 : decode cX7_checkStored 21 = .ok (.athrow, 1) := by decide +kernel
theorem dX7_checkStored_22 : decode cX7_checkStored 22 = .ok (.return_, 1) := by decide +kernel
theorem dX7_checkBay_0 : decode cX7_checkBay 0 = .ok (.iload_n 1, 1) := by decide +kernel
theorem dX7_checkBay_1 : decode cX7_checkBay 1 = .ok (.invokestatic 354, 3) := by decide +kernel
theorem dX7_checkBay_4 : decode cX7_checkBay 4 = .ok (.ifCond .ne 14, 3) := by decide +kernel
theorem dX7_checkBay_7 : decode cX7_checkBay 7 = .ok (.new 257, 3) := by decide +kernel
theorem dX7_checkBay_10 : decode cX7_checkBay 10 = .ok (.dup, 1) := by decide +kernel
theorem dX7_checkBay_11 : decode cX7_checkBay 11 = .ok (.ldc_w 366, 3) := by decide +kernel
theorem dX7_checkBay_14 : decode cX7_checkBay 14 = .ok (.invokespecial 261, 3) := by decide +kernel
theorem dX7_checkBay_17 : decode cX7_checkBay 17 = .ok (.athrow, 1) := by decide +kernel
theorem dX7_checkBay_18 : decode cX7_checkBay 18 = .ok (.return_, 1) := by decide +kernel
theorem dX7_checkMachine_0 : decode cX7_checkMachine 0 = .ok (.iload_n 1, 1) := by decide +kernel
theorem dX7_checkMachine_1 : decode cX7_checkMachine 1 = .ok (.ifCond .lt 8, 3) := by decide +kernel
theorem dX7_checkMachine_4 : decode cX7_checkMachine 4 = .ok (.iload_n 1, 1) := by decide +kernel
theorem dX7_checkMachine_5 : decode cX7_checkMachine 5 = .ok (.iconst 4, 1) := by decide +kernel
theorem dX7_checkMachine_6 : decode cX7_checkMachine 6 = .ok (.if_icmp .lt 14, 3) := by decide +kernel
theorem dX7_checkMachine_9 : decode cX7_checkMachine 9 = .ok (.new 257, 3) := by decide +kernel
theorem dX7_checkMachine_12 : decode cX7_checkMachine 12 = .ok (.dup, 1) := by decide +kernel
theorem dX7_checkMachine_13 : decode cX7_checkMachine 13 = .ok (.ldc_w 368, 3) := by decide +kernel
theorem dX7_checkMachine_16 : decode cX7_checkMachine 16 = .ok (.invokespecial 261, 3) := by decide +kernel
theorem dX7_checkMachine_19 : decode cX7_checkMachine 19 = .ok (.athrow, 1) := by decide +kernel
theorem dX7_checkMachine_20 : decode cX7_checkMachine 20 = .ok (.return_, 1) := by decide +kernel
theorem dX7_checkSet_0 : decode cX7_checkSet 0 = .ok (.lload_n 1, 1) := by decide +kernel
theorem dX7_checkSet_1 : decode cX7_checkSet 1 = .ok (.lconst 0, 1) := by decide +kernel
theorem dX7_checkSet_2 : decode cX7_checkSet 2 = .ok (.lcmp, 1) := by decide +kernel
theorem dX7_checkSet_3 : decode cX7_checkSet 3 = .ok (.ifCond .eq 24, 3) := by decide +kernel
theorem dX7_checkSet_6 : decode cX7_checkSet 6 = .ok (.lload_n 1, 1) := by decide +kernel
theorem dX7_checkSet_7 : decode cX7_checkSet 7 = .ok (.aload_n 0, 1) := by decide +kernel
theorem dX7_checkSet_8 : decode cX7_checkSet 8 = .ok (.getfield 12, 3) := by decide +kernel
theorem dX7_checkSet_11 : decode cX7_checkSet 11 = .ok (.sipush 9999, 3) := by decide +kernel
theorem dX7_checkSet_14 : decode cX7_checkSet 14 = .ok (.invokevirtual 111, 3) := by decide +kernel
theorem dX7_checkSet_17 : decode cX7_checkSet 17 = .ok (.ldc2_w 370, 3) := by decide +kernel
theorem dX7_checkSet_20 : decode cX7_checkSet 20 = .ok (.lxor, 1) := by decide +kernel
theorem dX7_checkSet_21 : decode cX7_checkSet 21 = .ok (.land, 1) := by decide +kernel
theorem dX7_checkSet_22 : decode cX7_checkSet 22 = .ok (.lconst 0, 1) := by decide +kernel
theorem dX7_checkSet_23 : decode cX7_checkSet 23 = .ok (.lcmp, 1) := by decide +kernel
theorem dX7_checkSet_24 : decode cX7_checkSet 24 = .ok (.ifCond .eq 14, 3) := by decide +kernel
theorem dX7_checkSet_27 : decode cX7_checkSet 27 = .ok (.new 257, 3) := by decide +kernel
theorem dX7_checkSet_30 : decode cX7_checkSet 30 = .ok (.dup, 1) := by decide +kernel
theorem dX7_checkSet_31 : decode cX7_checkSet 31 = .ok (.ldc_w 372, 3) := by decide +kernel
theorem dX7_checkSet_34 : decode cX7_checkSet 34 = .ok (.invokespecial 261, 3) := by decide +kernel
theorem dX7_checkSet_37 : decode cX7_checkSet 37 = .ok (.athrow, 1) := by decide +kernel
theorem dX7_checkSet_38 : decode cX7_checkSet 38 = .ok (.lload_n 1, 1) := by decide +kernel
theorem dX7_checkSet_39 : decode cX7_checkSet 39 = .ok (.invokestatic 174, 3) := by decide +kernel
theorem dX7_checkSet_42 : decode cX7_checkSet 42 = .ok (.iconst 5, 1) := by decide +kernel
theorem dX7_checkSet_43 : decode cX7_checkSet 43 = .ok (.if_icmp .le 14, 3) := by decide +kernel
theorem dX7_checkSet_46 : decode cX7_checkSet 46 = .ok (.new 106, 3) := by decide +kernel
theorem dX7_checkSet_49 : decode cX7_checkSet 49 = .ok (.dup, 1) := by decide +kernel
theorem dX7_checkSet_50 : decode cX7_checkSet 50 = .ok (.ldc_w 374, 3) := by decide +kernel
theorem dX7_checkSet_53 : decode cX7_checkSet 53 = .ok (.invokespecial 110, 3) := by decide +kernel
theorem dX7_checkSet_56 : decode cX7_checkSet 56 = .ok (.athrow, 1) := by decide +kernel
theorem dX7_checkSet_57 : decode cX7_checkSet 57 = .ok (.return_, 1) := by decide +kernel
theorem dX7_checkPossible_0 : decode cX7_checkPossible 0 = .ok (.iload_n 1, 1) := by decide +kernel
theorem dX7_checkPossible_1 : decode cX7_checkPossible 1 = .ok (.ifCond .ne 14, 3) := by decide +kernel
theorem dX7_checkPossible_4 : decode cX7_checkPossible 4 = .ok (.new 153, 3) := by decide +kernel
theorem dX7_checkPossible_7 : decode cX7_checkPossible 7 = .ok (.dup, 1) := by decide +kernel
theorem dX7_checkPossible_8 : decode cX7_checkPossible 8 = .ok (.ldc_w 376, 3) := by decide +kernel
theorem dX7_checkPossible_11 : decode cX7_checkPossible 11 = .ok (.invokespecial 155, 3) := by decide +kernel
theorem dX7_checkPossible_14 : decode cX7_checkPossible 14 = .ok (.athrow, 1) := by decide +kernel
theorem dX7_checkPossible_15 : decode cX7_checkPossible 15 = .ok (.return_, 1) := by decide +kernel
theorem dX7_isTime_0 : decode cX7_isTime 0 = .ok (.iload_n 0, 1) := by decide +kernel
theorem dX7_isTime_1 : decode cX7_isTime 1 = .ok (.ifCond .lt 14, 3) := by decide +kernel
theorem dX7_isTime_4 : decode cX7_isTime 4 = .ok (.iload_n 0, 1) := by decide +kernel
theorem dX7_isTime_5 : decode cX7_isTime 5 = .ok (.sipush 9999, 3) := by decide +kernel
theorem dX7_isTime_8 : decode cX7_isTime 8 = .ok (.if_icmp .gt 7, 3) := by decide +kernel
theorem dX7_isTime_11 : decode cX7_isTime 11 = .ok (.iconst 1, 1) := by decide +kernel
theorem dX7_isTime_12 : decode cX7_isTime 12 = .ok (.goto 4, 3) := by decide +kernel
theorem dX7_isTime_15 : decode cX7_isTime 15 = .ok (.iconst 0, 1) := by decide +kernel
theorem dX7_isTime_16 : decode cX7_isTime 16 = .ok (.ireturn, 1) := by decide +kernel
theorem dX7_isPass_0 : decode cX7_isPass 0 = .ok (.iload_n 0, 1) := by decide +kernel
theorem dX7_isPass_1 : decode cX7_isPass 1 = .ok (.iconst 1, 1) := by decide +kernel
theorem dX7_isPass_2 : decode cX7_isPass 2 = .ok (.if_icmp .lt 14, 3) := by decide +kernel
theorem dX7_isPass_5 : decode cX7_isPass 5 = .ok (.iload_n 0, 1) := by decide +kernel
theorem dX7_isPass_6 : decode cX7_isPass 6 = .ok (.sipush 999, 3) := by decide +kernel
theorem dX7_isPass_9 : decode cX7_isPass 9 = .ok (.if_icmp .gt 7, 3) := by decide +kernel
theorem dX7_isPass_12 : decode cX7_isPass 12 = .ok (.iconst 1, 1) := by decide +kernel
theorem dX7_isPass_13 : decode cX7_isPass 13 = .ok (.goto 4, 3) := by decide +kernel
theorem dX7_isPass_16 : decode cX7_isPass 16 = .ok (.iconst 0, 1) := by decide +kernel
theorem dX7_isPass_17 : decode cX7_isPass 17 = .ok (.ireturn, 1) := by decide +kernel
theorem dX7_isBay_0 : decode cX7_isBay 0 = .ok (.iload_n 0, 1) := by decide +kernel
theorem dX7_isBay_1 : decode cX7_isBay 1 = .ok (.ifCond .lt 13, 3) := by decide +kernel
theorem dX7_isBay_4 : decode cX7_isBay 4 = .ok (.iload_n 0, 1) := by decide +kernel
theorem dX7_isBay_5 : decode cX7_isBay 5 = .ok (.bipush 60, 2) := by decide +kernel
theorem dX7_isBay_7 : decode cX7_isBay 7 = .ok (.if_icmp .ge 7, 3) := by decide +kernel
theorem dX7_isBay_10 : decode cX7_isBay 10 = .ok (.iconst 1, 1) := by decide +kernel
theorem dX7_isBay_11 : decode cX7_isBay 11 = .ok (.goto 4, 3) := by decide +kernel
theorem dX7_isBay_14 : decode cX7_isBay 14 = .ok (.iconst 0, 1) := by decide +kernel
theorem dX7_isBay_15 : decode cX7_isBay 15 = .ok (.ireturn, 1) := by decide +kernel
theorem dX7_levelOf_0 : decode cX7_levelOf 0 = .ok (.iload_n 0, 1) := by decide +kernel
theorem dX7_levelOf_1 : decode cX7_levelOf 1 = .ok (.bipush 20, 2) := by decide +kernel
theorem dX7_levelOf_3 : decode cX7_levelOf 3 = .ok (.idiv, 1) := by decide +kernel
theorem dX7_levelOf_4 : decode cX7_levelOf 4 = .ok (.ireturn, 1) := by decide +kernel
theorem dX7_sideOf_0 : decode cX7_sideOf 0 = .ok (.iload_n 0, 1) := by decide +kernel
theorem dX7_sideOf_1 : decode cX7_sideOf 1 = .ok (.bipush 20, 2) := by decide +kernel
theorem dX7_sideOf_3 : decode cX7_sideOf 3 = .ok (.irem, 1) := by decide +kernel
theorem dX7_sideOf_4 : decode cX7_sideOf 4 = .ok (.bipush 10, 2) := by decide +kernel
theorem dX7_sideOf_6 : decode cX7_sideOf 6 = .ok (.idiv, 1) := by decide +kernel
theorem dX7_sideOf_7 : decode cX7_sideOf 7 = .ok (.ireturn, 1) := by decide +kernel
theorem dX7_columnOf_0 : decode cX7_columnOf 0 = .ok (.iload_n 0, 1) := by decide +kernel
theorem dX7_columnOf_1 : decode cX7_columnOf 1 = .ok (.bipush 10, 2) := by decide +kernel
theorem dX7_columnOf_3 : decode cX7_columnOf 3 = .ok (.irem, 1) := by decide +kernel
theorem dX7_columnOf_4 : decode cX7_columnOf 4 = .ok (.iconst 2, 1) := by decide +kernel
theorem dX7_columnOf_5 : decode cX7_columnOf 5 = .ok (.idiv, 1) := by decide +kernel
theorem dX7_columnOf_6 : decode cX7_columnOf 6 = .ok (.ireturn, 1) := by decide +kernel
theorem dX7_depthOf_0 : decode cX7_depthOf 0 = .ok (.iload_n 0, 1) := by decide +kernel
theorem dX7_depthOf_1 : decode cX7_depthOf 1 = .ok (.iconst 2, 1) := by decide +kernel
theorem dX7_depthOf_2 : decode cX7_depthOf 2 = .ok (.irem, 1) := by decide +kernel
theorem dX7_depthOf_3 : decode cX7_depthOf 3 = .ok (.ireturn, 1) := by decide +kernel
theorem dX7_isWide_0 : decode cX7_isWide 0 = .ok (.iload_n 0, 1) := by decide +kernel
theorem dX7_isWide_1 : decode cX7_isWide 1 = .ok (.invokestatic 128, 3) := by decide +kernel
theorem dX7_isWide_4 : decode cX7_isWide 4 = .ok (.iconst 2, 1) := by decide +kernel
theorem dX7_isWide_5 : decode cX7_isWide 5 = .ok (.irem, 1) := by decide +kernel
theorem dX7_isWide_6 : decode cX7_isWide 6 = .ok (.ifCond .ne 7, 3) := by decide +kernel
theorem dX7_isWide_9 : decode cX7_isWide 9 = .ok (.iconst 1, 1) := by decide +kernel
theorem dX7_isWide_10 : decode cX7_isWide 10 = .ok (.goto 4, 3) := by decide +kernel
theorem dX7_isWide_13 : decode cX7_isWide 13 = .ok (.iconst 0, 1) := by decide +kernel
theorem dX7_isWide_14 : decode cX7_isWide 14 = .ok (.ireturn, 1) := by decide +kernel
theorem dX7_effortToStore_0 : decode cX7_effortToStore 0 = .ok (.iconst 3, 1) := by decide +kernel
theorem dX7_effortToStore_1 : decode cX7_effortToStore 1 = .ok (.iload_n 0, 1) := by decide +kernel
theorem dX7_effortToStore_2 : decode cX7_effortToStore 2 = .ok (.invokestatic 122, 3) := by decide +kernel
theorem dX7_effortToStore_5 : decode cX7_effortToStore 5 = .ok (.imul, 1) := by decide +kernel
theorem dX7_effortToStore_6 : decode cX7_effortToStore 6 = .ok (.iload_n 0, 1) := by decide +kernel
theorem dX7_effortToStore_7 : decode cX7_effortToStore 7 = .ok (.invokestatic 128, 3) := by decide +kernel
theorem dX7_effortToStore_10 : decode cX7_effortToStore 10 = .ok (.iadd, 1) := by decide +kernel
theorem dX7_effortToStore_11 : decode cX7_effortToStore 11 = .ok (.iload_n 0, 1) := by decide +kernel
theorem dX7_effortToStore_12 : decode cX7_effortToStore 12 = .ok (.invokestatic 131, 3) := by decide +kernel
theorem dX7_effortToStore_15 : decode cX7_effortToStore 15 = .ok (.iadd, 1) := by decide +kernel
theorem dX7_effortToStore_16 : decode cX7_effortToStore 16 = .ok (.ireturn, 1) := by decide +kernel
theorem dX7_effortToMove_0 : decode cX7_effortToMove 0 = .ok (.iload_n 0, 1) := by decide +kernel
theorem dX7_effortToMove_1 : decode cX7_effortToMove 1 = .ok (.invokestatic 122, 3) := by decide +kernel
theorem dX7_effortToMove_4 : decode cX7_effortToMove 4 = .ok (.iload_n 1, 1) := by decide +kernel
theorem dX7_effortToMove_5 : decode cX7_effortToMove 5 = .ok (.invokestatic 122, 3) := by decide +kernel
theorem dX7_effortToMove_8 : decode cX7_effortToMove 8 = .ok (.if_icmp .ne 21, 3) := by decide +kernel
theorem dX7_effortToMove_11 : decode cX7_effortToMove 11 = .ok (.iload_n 0, 1) := by decide +kernel
theorem dX7_effortToMove_12 : decode cX7_effortToMove 12 = .ok (.invokestatic 128, 3) := by decide +kernel
theorem dX7_effortToMove_15 : decode cX7_effortToMove 15 = .ok (.iload_n 1, 1) := by decide +kernel
theorem dX7_effortToMove_16 : decode cX7_effortToMove 16 = .ok (.invokestatic 128, 3) := by decide +kernel
theorem dX7_effortToMove_19 : decode cX7_effortToMove 19 = .ok (.isub, 1) := by decide +kernel
theorem dX7_effortToMove_20 : decode cX7_effortToMove 20 = .ok (.invokestatic 378, 3) := by decide +kernel
theorem dX7_effortToMove_23 : decode cX7_effortToMove 23 = .ok (.iload_n 1, 1) := by decide +kernel
theorem dX7_effortToMove_24 : decode cX7_effortToMove 24 = .ok (.invokestatic 131, 3) := by decide +kernel
theorem dX7_effortToMove_27 : decode cX7_effortToMove 27 = .ok (.iadd, 1) := by decide +kernel
theorem dX7_effortToMove_28 : decode cX7_effortToMove 28 = .ok (.ireturn, 1) := by decide +kernel
theorem dX7_effortToMove_29 : decode cX7_effortToMove 29 = .ok (.iload_n 0, 1) := by decide +kernel
theorem dX7_effortToMove_30 : decode cX7_effortToMove 30 = .ok (.invokestatic 122, 3) := by decide +kernel
theorem dX7_effortToMove_33 : decode cX7_effortToMove 33 = .ok (.iload_n 1, 1) := by decide +kernel
theorem dX7_effortToMove_34 : decode cX7_effortToMove 34 = .ok (.invokestatic 122, 3) := by decide +kernel
theorem dX7_effortToMove_37 : decode cX7_effortToMove 37 = .ok (.isub, 1) := by decide +kernel
theorem dX7_effortToMove_38 : decode cX7_effortToMove 38 = .ok (.invokestatic 378, 3) := by decide +kernel
theorem dX7_effortToMove_41 : decode cX7_effortToMove 41 = .ok (.istore_n 2, 1) := by decide +kernel
theorem dX7_effortToMove_42 : decode cX7_effortToMove 42 = .ok (.bipush 20, 2) := by decide +kernel
theorem dX7_effortToMove_44 : decode cX7_effortToMove 44 = .ok (.iconst 3, 1) := by decide +kernel
theorem dX7_effortToMove_45 : decode cX7_effortToMove 45 = .ok (.iload_n 2, 1) := by decide +kernel
theorem dX7_effortToMove_46 : decode cX7_effortToMove 46 = .ok (.imul, 1) := by decide +kernel
theorem dX7_effortToMove_47 : decode cX7_effortToMove 47 = .ok (.iadd, 1) := by decide +kernel
theorem dX7_effortToMove_48 : decode cX7_effortToMove 48 = .ok (.iload_n 0, 1) := by decide +kernel
theorem dX7_effortToMove_49 : decode cX7_effortToMove 49 = .ok (.invokestatic 128, 3) := by decide +kernel
theorem dX7_effortToMove_52 : decode cX7_effortToMove 52 = .ok (.iadd, 1) := by decide +kernel
theorem dX7_effortToMove_53 : decode cX7_effortToMove 53 = .ok (.iload_n 1, 1) := by decide +kernel
theorem dX7_effortToMove_54 : decode cX7_effortToMove 54 = .ok (.invokestatic 128, 3) := by decide +kernel
theorem dX7_effortToMove_57 : decode cX7_effortToMove 57 = .ok (.iadd, 1) := by decide +kernel
theorem dX7_effortToMove_58 : decode cX7_effortToMove 58 = .ok (.iload_n 1, 1) := by decide +kernel
theorem dX7_effortToMove_59 : decode cX7_effortToMove 59 = .ok (.invokestatic 131, 3) := by decide +kernel
theorem dX7_effortToMove_62 : decode cX7_effortToMove 62 = .ok (.iadd, 1) := by decide +kernel
theorem dX7_effortToMove_63 : decode cX7_effortToMove 63 = .ok (.ireturn, 1) := by decide +kernel
theorem dJ13_bitCount_95d88_0 : decode cJ13_bitCount_95d88 0 = .ok (.lload_n 0, 1) := by decide +kernel
theorem dJ13_bitCount_95d88_1 : decode cJ13_bitCount_95d88 1 = .ok (.lload_n 0, 1) := by decide +kernel
theorem dJ13_bitCount_95d88_2 : decode cJ13_bitCount_95d88 2 = .ok (.iconst 1, 1) := by decide +kernel
theorem dJ13_bitCount_95d88_3 : decode cJ13_bitCount_95d88 3 = .ok (.lushr, 1) := by decide +kernel
theorem dJ13_bitCount_95d88_4 : decode cJ13_bitCount_95d88 4 = .ok (.ldc2_w 314, 3) := by decide +kernel
theorem dJ13_bitCount_95d88_7 : decode cJ13_bitCount_95d88 7 = .ok (.land, 1) := by decide +kernel
theorem dJ13_bitCount_95d88_8 : decode cJ13_bitCount_95d88 8 = .ok (.lsub, 1) := by decide +kernel
theorem dJ13_bitCount_95d88_9 : decode cJ13_bitCount_95d88 9 = .ok (.lstore_n 0, 1) := by decide +kernel
theorem dJ13_bitCount_95d88_10 : decode cJ13_bitCount_95d88 10 = .ok (.lload_n 0, 1) := by decide +kernel
theorem dJ13_bitCount_95d88_11 : decode cJ13_bitCount_95d88 11 = .ok (.ldc2_w 316, 3) := by decide +kernel
theorem dJ13_bitCount_95d88_14 : decode cJ13_bitCount_95d88 14 = .ok (.land, 1) := by decide +kernel
theorem dJ13_bitCount_95d88_15 : decode cJ13_bitCount_95d88 15 = .ok (.lload_n 0, 1) := by decide +kernel
theorem dJ13_bitCount_95d88_16 : decode cJ13_bitCount_95d88 16 = .ok (.iconst 2, 1) := by decide +kernel
theorem dJ13_bitCount_95d88_17 : decode cJ13_bitCount_95d88 17 = .ok (.lushr, 1) := by decide +kernel
theorem dJ13_bitCount_95d88_18 : decode cJ13_bitCount_95d88 18 = .ok (.ldc2_w 316, 3) := by decide +kernel
theorem dJ13_bitCount_95d88_21 : decode cJ13_bitCount_95d88 21 = .ok (.land, 1) := by decide +kernel
theorem dJ13_bitCount_95d88_22 : decode cJ13_bitCount_95d88 22 = .ok (.ladd, 1) := by decide +kernel
theorem dJ13_bitCount_95d88_23 : decode cJ13_bitCount_95d88 23 = .ok (.lstore_n 0, 1) := by decide +kernel
theorem dJ13_bitCount_95d88_24 : decode cJ13_bitCount_95d88 24 = .ok (.lload_n 0, 1) := by decide +kernel
theorem dJ13_bitCount_95d88_25 : decode cJ13_bitCount_95d88 25 = .ok (.lload_n 0, 1) := by decide +kernel
theorem dJ13_bitCount_95d88_26 : decode cJ13_bitCount_95d88 26 = .ok (.iconst 4, 1) := by decide +kernel
theorem dJ13_bitCount_95d88_27 : decode cJ13_bitCount_95d88 27 = .ok (.lushr, 1) := by decide +kernel
theorem dJ13_bitCount_95d88_28 : decode cJ13_bitCount_95d88 28 = .ok (.ladd, 1) := by decide +kernel
theorem dJ13_bitCount_95d88_29 : decode cJ13_bitCount_95d88 29 = .ok (.ldc2_w 318, 3) := by decide +kernel
theorem dJ13_bitCount_95d88_32 : decode cJ13_bitCount_95d88 32 = .ok (.land, 1) := by decide +kernel
theorem dJ13_bitCount_95d88_33 : decode cJ13_bitCount_95d88 33 = .ok (.lstore_n 0, 1) := by decide +kernel
theorem dJ13_bitCount_95d88_34 : decode cJ13_bitCount_95d88 34 = .ok (.lload_n 0, 1) := by decide +kernel
theorem dJ13_bitCount_95d88_35 : decode cJ13_bitCount_95d88 35 = .ok (.lload_n 0, 1) := by decide +kernel
theorem dJ13_bitCount_95d88_36 : decode cJ13_bitCount_95d88 36 = .ok (.bipush 8, 2) := by decide +kernel
theorem dJ13_bitCount_95d88_38 : decode cJ13_bitCount_95d88 38 = .ok (.lushr, 1) := by decide +kernel
theorem dJ13_bitCount_95d88_39 : decode cJ13_bitCount_95d88 39 = .ok (.ladd, 1) := by decide +kernel
theorem dJ13_bitCount_95d88_40 : decode cJ13_bitCount_95d88 40 = .ok (.lstore_n 0, 1) := by decide +kernel
theorem dJ13_bitCount_95d88_41 : decode cJ13_bitCount_95d88 41 = .ok (.lload_n 0, 1) := by decide +kernel
theorem dJ13_bitCount_95d88_42 : decode cJ13_bitCount_95d88 42 = .ok (.lload_n 0, 1) := by decide +kernel
theorem dJ13_bitCount_95d88_43 : decode cJ13_bitCount_95d88 43 = .ok (.bipush 16, 2) := by decide +kernel
theorem dJ13_bitCount_95d88_45 : decode cJ13_bitCount_95d88 45 = .ok (.lushr, 1) := by decide +kernel
theorem dJ13_bitCount_95d88_46 : decode cJ13_bitCount_95d88 46 = .ok (.ladd, 1) := by decide +kernel
theorem dJ13_bitCount_95d88_47 : decode cJ13_bitCount_95d88 47 = .ok (.lstore_n 0, 1) := by decide +kernel
theorem dJ13_bitCount_95d88_48 : decode cJ13_bitCount_95d88 48 = .ok (.lload_n 0, 1) := by decide +kernel
theorem dJ13_bitCount_95d88_49 : decode cJ13_bitCount_95d88 49 = .ok (.lload_n 0, 1) := by decide +kernel
theorem dJ13_bitCount_95d88_50 : decode cJ13_bitCount_95d88 50 = .ok (.bipush 32, 2) := by decide +kernel
theorem dJ13_bitCount_95d88_52 : decode cJ13_bitCount_95d88 52 = .ok (.lushr, 1) := by decide +kernel
theorem dJ13_bitCount_95d88_53 : decode cJ13_bitCount_95d88 53 = .ok (.ladd, 1) := by decide +kernel
theorem dJ13_bitCount_95d88_54 : decode cJ13_bitCount_95d88 54 = .ok (.lstore_n 0, 1) := by decide +kernel
theorem dJ13_bitCount_95d88_55 : decode cJ13_bitCount_95d88 55 = .ok (.lload_n 0, 1) := by decide +kernel
theorem dJ13_bitCount_95d88_56 : decode cJ13_bitCount_95d88 56 = .ok (.l2i, 1) := by decide +kernel
theorem dJ13_bitCount_95d88_57 : decode cJ13_bitCount_95d88 57 = .ok (.bipush 127, 2) := by decide +kernel
theorem dJ13_bitCount_95d88_59 : decode cJ13_bitCount_95d88 59 = .ok (.iand, 1) := by decide +kernel
theorem dJ13_bitCount_95d88_60 : decode cJ13_bitCount_95d88 60 = .ok (.ireturn, 1) := by decide +kernel
theorem dL_store_0 : decode cL_store 0 = .ok (.aload_n 3, 1) := by decide +kernel
theorem dL_store_1 : decode cL_store 1 = .ok (.iconst 0, 1) := by decide +kernel
theorem dL_store_2 : decode cL_store 2 = .ok (.aload_n 0, 1) := by decide +kernel
theorem dL_store_3 : decode cL_store 3 = .ok (.iload_n 1, 1) := by decide +kernel
theorem dL_store_4 : decode cL_store 4 = .ok (.iload_n 2, 1) := by decide +kernel
theorem dL_store_5 : decode cL_store 5 = .ok (.invokevirtual 7, 3) := by decide +kernel
theorem dL_store_8 : decode cL_store 8 = .ok (.i2l, 1) := by decide +kernel
theorem dL_store_9 : decode cL_store 9 = .ok (.lastore, 1) := by decide +kernel
theorem dL_store_10 : decode cL_store 10 = .ok (.goto 15, 3) := by decide +kernel
theorem dL_store_13 : decode cL_store 13 = .ok (.astore 4, 2) := by decide +kernel
theorem dL_store_15 : decode cL_store 15 = .ok (.iconst 1, 1) := by decide +kernel
theorem dL_store_16 : decode cL_store 16 = .ok (.ireturn, 1) := by decide +kernel
theorem dL_store_17 : decode cL_store 17 = .ok (.astore 4, 2) := by decide +kernel
theorem dL_store_19 : decode cL_store 19 = .ok (.iconst 2, 1) := by decide +kernel
theorem dL_store_20 : decode cL_store 20 = .ok (.ireturn, 1) := by decide +kernel
theorem dL_store_21 : decode cL_store 21 = .ok (.astore 4, 2) := by decide +kernel
theorem dL_store_23 : decode cL_store 23 = .ok (.iconst 3, 1) := by decide +kernel
theorem dL_store_24 : decode cL_store 24 = .ok (.ireturn, 1) := by decide +kernel
theorem dL_store_25 : decode cL_store 25 = .ok (.iconst 0, 1) := by decide +kernel
theorem dL_store_26 : decode cL_store 26 = .ok (.ireturn, 1) := by decide +kernel
theorem dL_retrieve_0 : decode cL_retrieve 0 = .ok (.aload_n 2, 1) := by decide +kernel
theorem dL_retrieve_1 : decode cL_retrieve 1 = .ok (.iconst 0, 1) := by decide +kernel
theorem dL_retrieve_2 : decode cL_retrieve 2 = .ok (.aload_n 0, 1) := by decide +kernel
theorem dL_retrieve_3 : decode cL_retrieve 3 = .ok (.iload_n 1, 1) := by decide +kernel
theorem dL_retrieve_4 : decode cL_retrieve 4 = .ok (.invokevirtual 19, 3) := by decide +kernel
theorem dL_retrieve_7 : decode cL_retrieve 7 = .ok (.i2l, 1) := by decide +kernel
theorem dL_retrieve_8 : decode cL_retrieve 8 = .ok (.lastore, 1) := by decide +kernel
theorem dL_retrieve_9 : decode cL_retrieve 9 = .ok (.goto 9, 3) := by decide +kernel
theorem dL_retrieve_12 : decode cL_retrieve 12 = .ok (.astore_n 3, 1) := by decide +kernel
theorem dL_retrieve_13 : decode cL_retrieve 13 = .ok (.iconst 1, 1) := by decide +kernel
theorem dL_retrieve_14 : decode cL_retrieve 14 = .ok (.ireturn, 1) := by decide +kernel
theorem dL_retrieve_15 : decode cL_retrieve 15 = .ok (.astore_n 3, 1) := by decide +kernel
theorem dL_retrieve_16 : decode cL_retrieve 16 = .ok (.iconst 2, 1) := by decide +kernel
theorem dL_retrieve_17 : decode cL_retrieve 17 = .ok (.ireturn, 1) := by decide +kernel
theorem dL_retrieve_18 : decode cL_retrieve 18 = .ok (.iconst 0, 1) := by decide +kernel
theorem dL_retrieve_19 : decode cL_retrieve 19 = .ok (.ireturn, 1) := by decide +kernel
theorem dL_book_0 : decode cL_book 0 = .ok (.aload_n 3, 1) := by decide +kernel
theorem dL_book_1 : decode cL_book 1 = .ok (.iconst 0, 1) := by decide +kernel
theorem dL_book_2 : decode cL_book 2 = .ok (.aload_n 0, 1) := by decide +kernel
theorem dL_book_3 : decode cL_book 3 = .ok (.iload_n 1, 1) := by decide +kernel
theorem dL_book_4 : decode cL_book 4 = .ok (.iload_n 2, 1) := by decide +kernel
theorem dL_book_5 : decode cL_book 5 = .ok (.invokevirtual 25, 3) := by decide +kernel
theorem dL_book_8 : decode cL_book 8 = .ok (.i2l, 1) := by decide +kernel
theorem dL_book_9 : decode cL_book 9 = .ok (.lastore, 1) := by decide +kernel
theorem dL_book_10 : decode cL_book 10 = .ok (.goto 11, 3) := by decide +kernel
theorem dL_book_13 : decode cL_book 13 = .ok (.astore 4, 2) := by decide +kernel
theorem dL_book_15 : decode cL_book 15 = .ok (.iconst 1, 1) := by decide +kernel
theorem dL_book_16 : decode cL_book 16 = .ok (.ireturn, 1) := by decide +kernel
theorem dL_book_17 : decode cL_book 17 = .ok (.astore 4, 2) := by decide +kernel
theorem dL_book_19 : decode cL_book 19 = .ok (.iconst 2, 1) := by decide +kernel
theorem dL_book_20 : decode cL_book 20 = .ok (.ireturn, 1) := by decide +kernel
theorem dL_book_21 : decode cL_book 21 = .ok (.iconst 0, 1) := by decide +kernel
theorem dL_book_22 : decode cL_book 22 = .ok (.ireturn, 1) := by decide +kernel
theorem dL_car_0 : decode cL_car 0 = .ok (.aload_n 3, 1) := by decide +kernel
theorem dL_car_1 : decode cL_car 1 = .ok (.iconst 0, 1) := by decide +kernel
theorem dL_car_2 : decode cL_car 2 = .ok (.aload_n 0, 1) := by decide +kernel
theorem dL_car_3 : decode cL_car 3 = .ok (.iload_n 1, 1) := by decide +kernel
theorem dL_car_4 : decode cL_car 4 = .ok (.iload_n 2, 1) := by decide +kernel
theorem dL_car_5 : decode cL_car 5 = .ok (.invokevirtual 28, 3) := by decide +kernel
theorem dL_car_8 : decode cL_car 8 = .ok (.i2l, 1) := by decide +kernel
theorem dL_car_9 : decode cL_car 9 = .ok (.lastore, 1) := by decide +kernel
theorem dL_car_10 : decode cL_car 10 = .ok (.goto 11, 3) := by decide +kernel
theorem dL_car_13 : decode cL_car 13 = .ok (.astore 4, 2) := by decide +kernel
theorem dL_car_15 : decode cL_car 15 = .ok (.iconst 1, 1) := by decide +kernel
theorem dL_car_16 : decode cL_car 16 = .ok (.ireturn, 1) := by decide +kernel
theorem dL_car_17 : decode cL_car 17 = .ok (.astore 4, 2) := by decide +kernel
theorem dL_car_19 : decode cL_car 19 = .ok (.iconst 2, 1) := by decide +kernel
theorem dL_car_20 : decode cL_car 20 = .ok (.ireturn, 1) := by decide +kernel
theorem dL_car_21 : decode cL_car 21 = .ok (.iconst 0, 1) := by decide +kernel
theorem dL_car_22 : decode cL_car 22 = .ok (.ireturn, 1) := by decide +kernel
theorem dL_due_0 : decode cL_due 0 = .ok (.aload_n 2, 1) := by decide +kernel
theorem dL_due_1 : decode cL_due 1 = .ok (.iconst 0, 1) := by decide +kernel
theorem dL_due_2 : decode cL_due 2 = .ok (.aload_n 0, 1) := by decide +kernel
theorem dL_due_3 : decode cL_due 3 = .ok (.iload_n 1, 1) := by decide +kernel
theorem dL_due_4 : decode cL_due 4 = .ok (.invokevirtual 31, 3) := by decide +kernel
theorem dL_due_7 : decode cL_due 7 = .ok (.lastore, 1) := by decide +kernel
theorem dL_due_8 : decode cL_due 8 = .ok (.goto 6, 3) := by decide +kernel
theorem dL_due_11 : decode cL_due 11 = .ok (.astore_n 3, 1) := by decide +kernel
theorem dL_due_12 : decode cL_due 12 = .ok (.iconst 1, 1) := by decide +kernel
theorem dL_due_13 : decode cL_due 13 = .ok (.ireturn, 1) := by decide +kernel
theorem dL_due_14 : decode cL_due 14 = .ok (.iconst 0, 1) := by decide +kernel
theorem dL_due_15 : decode cL_due 15 = .ok (.ireturn, 1) := by decide +kernel
theorem dL_setClosed_0 : decode cL_setClosed 0 = .ok (.aload_n 3, 1) := by decide +kernel
theorem dL_setClosed_1 : decode cL_setClosed 1 = .ok (.iconst 0, 1) := by decide +kernel
theorem dL_setClosed_2 : decode cL_setClosed 2 = .ok (.aload_n 0, 1) := by decide +kernel
theorem dL_setClosed_3 : decode cL_setClosed 3 = .ok (.iload_n 1, 1) := by decide +kernel
theorem dL_setClosed_4 : decode cL_setClosed 4 = .ok (.iload_n 2, 1) := by decide +kernel
theorem dL_setClosed_5 : decode cL_setClosed 5 = .ok (.invokevirtual 35, 3) := by decide +kernel
theorem dL_setClosed_8 : decode cL_setClosed 8 = .ok (.ifCond .eq 7, 3) := by decide +kernel
theorem dL_setClosed_11 : decode cL_setClosed 11 = .ok (.lconst 1, 1) := by decide +kernel
theorem dL_setClosed_12 : decode cL_setClosed 12 = .ok (.goto 4, 3) := by decide +kernel
theorem dL_setClosed_15 : decode cL_setClosed 15 = .ok (.lconst 0, 1) := by decide +kernel
theorem dL_setClosed_16 : decode cL_setClosed 16 = .ok (.lastore, 1) := by decide +kernel
theorem dL_setClosed_17 : decode cL_setClosed 17 = .ok (.goto 7, 3) := by decide +kernel
theorem dL_setClosed_20 : decode cL_setClosed 20 = .ok (.astore 4, 2) := by decide +kernel
theorem dL_setClosed_22 : decode cL_setClosed 22 = .ok (.iconst 1, 1) := by decide +kernel
theorem dL_setClosed_23 : decode cL_setClosed 23 = .ok (.ireturn, 1) := by decide +kernel
theorem dL_setClosed_24 : decode cL_setClosed 24 = .ok (.iconst 0, 1) := by decide +kernel
theorem dL_setClosed_25 : decode cL_setClosed 25 = .ok (.ireturn, 1) := by decide +kernel
theorem dL_bay_0 : decode cL_bay 0 = .ok (.aload_n 3, 1) := by decide +kernel
theorem dL_bay_1 : decode cL_bay 1 = .ok (.iconst 0, 1) := by decide +kernel
theorem dL_bay_2 : decode cL_bay 2 = .ok (.aload_n 0, 1) := by decide +kernel
theorem dL_bay_3 : decode cL_bay 3 = .ok (.iload_n 1, 1) := by decide +kernel
theorem dL_bay_4 : decode cL_bay 4 = .ok (.iload_n 2, 1) := by decide +kernel
theorem dL_bay_5 : decode cL_bay 5 = .ok (.invokevirtual 39, 3) := by decide +kernel
theorem dL_bay_8 : decode cL_bay 8 = .ok (.i2l, 1) := by decide +kernel
theorem dL_bay_9 : decode cL_bay 9 = .ok (.lastore, 1) := by decide +kernel
theorem dL_bay_10 : decode cL_bay 10 = .ok (.goto 11, 3) := by decide +kernel
theorem dL_bay_13 : decode cL_bay 13 = .ok (.astore 4, 2) := by decide +kernel
theorem dL_bay_15 : decode cL_bay 15 = .ok (.iconst 1, 1) := by decide +kernel
theorem dL_bay_16 : decode cL_bay 16 = .ok (.ireturn, 1) := by decide +kernel
theorem dL_bay_17 : decode cL_bay 17 = .ok (.astore 4, 2) := by decide +kernel
theorem dL_bay_19 : decode cL_bay 19 = .ok (.iconst 2, 1) := by decide +kernel
theorem dL_bay_20 : decode cL_bay 20 = .ok (.ireturn, 1) := by decide +kernel
theorem dL_bay_21 : decode cL_bay 21 = .ok (.iconst 0, 1) := by decide +kernel
theorem dL_bay_22 : decode cL_bay 22 = .ok (.ireturn, 1) := by decide +kernel
theorem dL_choice_0 : decode cL_choice 0 = .ok (.aload_n 3, 1) := by decide +kernel
theorem dL_choice_1 : decode cL_choice 1 = .ok (.iconst 0, 1) := by decide +kernel
theorem dL_choice_2 : decode cL_choice 2 = .ok (.aload_n 0, 1) := by decide +kernel
theorem dL_choice_3 : decode cL_choice 3 = .ok (.iload_n 1, 1) := by decide +kernel
theorem dL_choice_4 : decode cL_choice 4 = .ok (.iload_n 2, 1) := by decide +kernel
theorem dL_choice_5 : decode cL_choice 5 = .ok (.invokevirtual 42, 3) := by decide +kernel
theorem dL_choice_8 : decode cL_choice 8 = .ok (.i2l, 1) := by decide +kernel
theorem dL_choice_9 : decode cL_choice 9 = .ok (.lastore, 1) := by decide +kernel
theorem dL_choice_10 : decode cL_choice 10 = .ok (.goto 11, 3) := by decide +kernel
theorem dL_choice_13 : decode cL_choice 13 = .ok (.astore 4, 2) := by decide +kernel
theorem dL_choice_15 : decode cL_choice 15 = .ok (.iconst 1, 1) := by decide +kernel
theorem dL_choice_16 : decode cL_choice 16 = .ok (.ireturn, 1) := by decide +kernel
theorem dL_choice_17 : decode cL_choice 17 = .ok (.astore 4, 2) := by decide +kernel
theorem dL_choice_19 : decode cL_choice 19 = .ok (.iconst 2, 1) := by decide +kernel
theorem dL_choice_20 : decode cL_choice 20 = .ok (.ireturn, 1) := by decide +kernel
theorem dL_choice_21 : decode cL_choice 21 = .ok (.iconst 0, 1) := by decide +kernel
theorem dL_choice_22 : decode cL_choice 22 = .ok (.ireturn, 1) := by decide +kernel
theorem dL_refuge_0 : decode cL_refuge 0 = .ok (.aload_n 2, 1) := by decide +kernel
theorem dL_refuge_1 : decode cL_refuge 1 = .ok (.iconst 0, 1) := by decide +kernel
theorem dL_refuge_2 : decode cL_refuge 2 = .ok (.aload_n 0, 1) := by decide +kernel
theorem dL_refuge_3 : decode cL_refuge 3 = .ok (.iload_n 1, 1) := by decide +kernel
theorem dL_refuge_4 : decode cL_refuge 4 = .ok (.invokevirtual 47, 3) := by decide +kernel
theorem dL_refuge_7 : decode cL_refuge 7 = .ok (.i2l, 1) := by decide +kernel
theorem dL_refuge_8 : decode cL_refuge 8 = .ok (.lastore, 1) := by decide +kernel
theorem dL_refuge_9 : decode cL_refuge 9 = .ok (.goto 9, 3) := by decide +kernel
theorem dL_refuge_12 : decode cL_refuge 12 = .ok (.astore_n 3, 1) := by decide +kernel
theorem dL_refuge_13 : decode cL_refuge 13 = .ok (.iconst 1, 1) := by decide +kernel
theorem dL_refuge_14 : decode cL_refuge 14 = .ok (.ireturn, 1) := by decide +kernel
theorem dL_refuge_15 : decode cL_refuge 15 = .ok (.astore_n 3, 1) := by decide +kernel
theorem dL_refuge_16 : decode cL_refuge 16 = .ok (.iconst 2, 1) := by decide +kernel
theorem dL_refuge_17 : decode cL_refuge 17 = .ok (.ireturn, 1) := by decide +kernel
theorem dL_refuge_18 : decode cL_refuge 18 = .ok (.iconst 0, 1) := by decide +kernel
theorem dL_refuge_19 : decode cL_refuge 19 = .ok (.ireturn, 1) := by decide +kernel
theorem dL_bays_0 : decode cL_bays 0 = .ok (.aload_n 2, 1) := by decide +kernel
theorem dL_bays_1 : decode cL_bays 1 = .ok (.iconst 0, 1) := by decide +kernel
theorem dL_bays_2 : decode cL_bays 2 = .ok (.aload_n 0, 1) := by decide +kernel
theorem dL_bays_3 : decode cL_bays 3 = .ok (.iload_n 1, 1) := by decide +kernel
theorem dL_bays_4 : decode cL_bays 4 = .ok (.invokevirtual 50, 3) := by decide +kernel
theorem dL_bays_7 : decode cL_bays 7 = .ok (.i2l, 1) := by decide +kernel
theorem dL_bays_8 : decode cL_bays 8 = .ok (.lastore, 1) := by decide +kernel
theorem dL_bays_9 : decode cL_bays 9 = .ok (.goto 6, 3) := by decide +kernel
theorem dL_bays_12 : decode cL_bays 12 = .ok (.astore_n 3, 1) := by decide +kernel
theorem dL_bays_13 : decode cL_bays 13 = .ok (.iconst 1, 1) := by decide +kernel
theorem dL_bays_14 : decode cL_bays 14 = .ok (.ireturn, 1) := by decide +kernel
theorem dL_bays_15 : decode cL_bays 15 = .ok (.iconst 0, 1) := by decide +kernel
theorem dL_bays_16 : decode cL_bays 16 = .ok (.ireturn, 1) := by decide +kernel
theorem dL_bestMoves_0 : decode cL_bestMoves 0 = .ok (.aload_n 3, 1) := by decide +kernel
theorem dL_bestMoves_1 : decode cL_bestMoves 1 = .ok (.iconst 0, 1) := by decide +kernel
theorem dL_bestMoves_2 : decode cL_bestMoves 2 = .ok (.aload_n 0, 1) := by decide +kernel
theorem dL_bestMoves_3 : decode cL_bestMoves 3 = .ok (.lload_n 1, 1) := by decide +kernel
theorem dL_bestMoves_4 : decode cL_bestMoves 4 = .ok (.invokevirtual 53, 3) := by decide +kernel
theorem dL_bestMoves_7 : decode cL_bestMoves 7 = .ok (.i2l, 1) := by decide +kernel
theorem dL_bestMoves_8 : decode cL_bestMoves 8 = .ok (.lastore, 1) := by decide +kernel
theorem dL_bestMoves_9 : decode cL_bestMoves 9 = .ok (.goto 15, 3) := by decide +kernel
theorem dL_bestMoves_12 : decode cL_bestMoves 12 = .ok (.astore 4, 2) := by decide +kernel
theorem dL_bestMoves_14 : decode cL_bestMoves 14 = .ok (.iconst 1, 1) := by decide +kernel
theorem dL_bestMoves_15 : decode cL_bestMoves 15 = .ok (.ireturn, 1) := by decide +kernel
theorem dL_bestMoves_16 : decode cL_bestMoves 16 = .ok (.astore 4, 2) := by decide +kernel
theorem dL_bestMoves_18 : decode cL_bestMoves 18 = .ok (.iconst 2, 1) := by decide +kernel
theorem dL_bestMoves_19 : decode cL_bestMoves 19 = .ok (.ireturn, 1) := by decide +kernel
theorem dL_bestMoves_20 : decode cL_bestMoves 20 = .ok (.astore 4, 2) := by decide +kernel
theorem dL_bestMoves_22 : decode cL_bestMoves 22 = .ok (.iconst 3, 1) := by decide +kernel
theorem dL_bestMoves_23 : decode cL_bestMoves 23 = .ok (.ireturn, 1) := by decide +kernel
theorem dL_bestMoves_24 : decode cL_bestMoves 24 = .ok (.iconst 0, 1) := by decide +kernel
theorem dL_bestMoves_25 : decode cL_bestMoves 25 = .ok (.ireturn, 1) := by decide +kernel
theorem dL_bestEnd_0 : decode cL_bestEnd 0 = .ok (.aload_n 3, 1) := by decide +kernel
theorem dL_bestEnd_1 : decode cL_bestEnd 1 = .ok (.iconst 0, 1) := by decide +kernel
theorem dL_bestEnd_2 : decode cL_bestEnd 2 = .ok (.aload_n 0, 1) := by decide +kernel
theorem dL_bestEnd_3 : decode cL_bestEnd 3 = .ok (.lload_n 1, 1) := by decide +kernel
theorem dL_bestEnd_4 : decode cL_bestEnd 4 = .ok (.invokevirtual 57, 3) := by decide +kernel
theorem dL_bestEnd_7 : decode cL_bestEnd 7 = .ok (.i2l, 1) := by decide +kernel
theorem dL_bestEnd_8 : decode cL_bestEnd 8 = .ok (.lastore, 1) := by decide +kernel
theorem dL_bestEnd_9 : decode cL_bestEnd 9 = .ok (.goto 15, 3) := by decide +kernel
theorem dL_bestEnd_12 : decode cL_bestEnd 12 = .ok (.astore 4, 2) := by decide +kernel
theorem dL_bestEnd_14 : decode cL_bestEnd 14 = .ok (.iconst 1, 1) := by decide +kernel
theorem dL_bestEnd_15 : decode cL_bestEnd 15 = .ok (.ireturn, 1) := by decide +kernel
theorem dL_bestEnd_16 : decode cL_bestEnd 16 = .ok (.astore 4, 2) := by decide +kernel
theorem dL_bestEnd_18 : decode cL_bestEnd 18 = .ok (.iconst 2, 1) := by decide +kernel
theorem dL_bestEnd_19 : decode cL_bestEnd 19 = .ok (.ireturn, 1) := by decide +kernel
theorem dL_bestEnd_20 : decode cL_bestEnd 20 = .ok (.astore 4, 2) := by decide +kernel
theorem dL_bestEnd_22 : decode cL_bestEnd 22 = .ok (.iconst 3, 1) := by decide +kernel
theorem dL_bestEnd_23 : decode cL_bestEnd 23 = .ok (.ireturn, 1) := by decide +kernel
theorem dL_bestEnd_24 : decode cL_bestEnd 24 = .ok (.iconst 0, 1) := by decide +kernel
theorem dL_bestEnd_25 : decode cL_bestEnd 25 = .ok (.ireturn, 1) := by decide +kernel
theorem dL_bestCar_0 : decode cL_bestCar 0 = .ok (.aload 4, 2) := by decide +kernel
theorem dL_bestCar_2 : decode cL_bestCar 2 = .ok (.iconst 0, 1) := by decide +kernel
theorem dL_bestCar_3 : decode cL_bestCar 3 = .ok (.aload_n 0, 1) := by decide +kernel
theorem dL_bestCar_4 : decode cL_bestCar 4 = .ok (.lload_n 1, 1) := by decide +kernel
theorem dL_bestCar_5 : decode cL_bestCar 5 = .ok (.iload_n 3, 1) := by decide +kernel
theorem dL_bestCar_6 : decode cL_bestCar 6 = .ok (.invokevirtual 60, 3) := by decide +kernel
theorem dL_bestCar_9 : decode cL_bestCar 9 = .ok (.i2l, 1) := by decide +kernel
theorem dL_bestCar_10 : decode cL_bestCar 10 = .ok (.lastore, 1) := by decide +kernel
theorem dL_bestCar_11 : decode cL_bestCar 11 = .ok (.goto 15, 3) := by decide +kernel
theorem dL_bestCar_14 : decode cL_bestCar 14 = .ok (.astore 5, 2) := by decide +kernel
theorem dL_bestCar_16 : decode cL_bestCar 16 = .ok (.iconst 1, 1) := by decide +kernel
theorem dL_bestCar_17 : decode cL_bestCar 17 = .ok (.ireturn, 1) := by decide +kernel
theorem dL_bestCar_18 : decode cL_bestCar 18 = .ok (.astore 5, 2) := by decide +kernel
theorem dL_bestCar_20 : decode cL_bestCar 20 = .ok (.iconst 2, 1) := by decide +kernel
theorem dL_bestCar_21 : decode cL_bestCar 21 = .ok (.ireturn, 1) := by decide +kernel
theorem dL_bestCar_22 : decode cL_bestCar 22 = .ok (.astore 5, 2) := by decide +kernel
theorem dL_bestCar_24 : decode cL_bestCar 24 = .ok (.iconst 3, 1) := by decide +kernel
theorem dL_bestCar_25 : decode cL_bestCar 25 = .ok (.ireturn, 1) := by decide +kernel
theorem dL_bestCar_26 : decode cL_bestCar 26 = .ok (.iconst 0, 1) := by decide +kernel
theorem dL_bestCar_27 : decode cL_bestCar 27 = .ok (.ireturn, 1) := by decide +kernel
theorem dL_plainMoves_0 : decode cL_plainMoves 0 = .ok (.aload_n 3, 1) := by decide +kernel
theorem dL_plainMoves_1 : decode cL_plainMoves 1 = .ok (.iconst 0, 1) := by decide +kernel
theorem dL_plainMoves_2 : decode cL_plainMoves 2 = .ok (.aload_n 0, 1) := by decide +kernel
theorem dL_plainMoves_3 : decode cL_plainMoves 3 = .ok (.lload_n 1, 1) := by decide +kernel
theorem dL_plainMoves_4 : decode cL_plainMoves 4 = .ok (.invokevirtual 64, 3) := by decide +kernel
theorem dL_plainMoves_7 : decode cL_plainMoves 7 = .ok (.i2l, 1) := by decide +kernel
theorem dL_plainMoves_8 : decode cL_plainMoves 8 = .ok (.lastore, 1) := by decide +kernel
theorem dL_plainMoves_9 : decode cL_plainMoves 9 = .ok (.goto 15, 3) := by decide +kernel
theorem dL_plainMoves_12 : decode cL_plainMoves 12 = .ok (.astore 4, 2) := by decide +kernel
theorem dL_plainMoves_14 : decode cL_plainMoves 14 = .ok (.iconst 1, 1) := by decide +kernel
theorem dL_plainMoves_15 : decode cL_plainMoves 15 = .ok (.ireturn, 1) := by decide +kernel
theorem dL_plainMoves_16 : decode cL_plainMoves 16 = .ok (.astore 4, 2) := by decide +kernel
theorem dL_plainMoves_18 : decode cL_plainMoves 18 = .ok (.iconst 2, 1) := by decide +kernel
theorem dL_plainMoves_19 : decode cL_plainMoves 19 = .ok (.ireturn, 1) := by decide +kernel
theorem dL_plainMoves_20 : decode cL_plainMoves 20 = .ok (.astore 4, 2) := by decide +kernel
theorem dL_plainMoves_22 : decode cL_plainMoves 22 = .ok (.iconst 3, 1) := by decide +kernel
theorem dL_plainMoves_23 : decode cL_plainMoves 23 = .ok (.ireturn, 1) := by decide +kernel
theorem dL_plainMoves_24 : decode cL_plainMoves 24 = .ok (.iconst 0, 1) := by decide +kernel
theorem dL_plainMoves_25 : decode cL_plainMoves 25 = .ok (.ireturn, 1) := by decide +kernel
theorem dL_retrieveAll_0 : decode cL_retrieveAll 0 = .ok (.aload_n 3, 1) := by decide +kernel
theorem dL_retrieveAll_1 : decode cL_retrieveAll 1 = .ok (.iconst 0, 1) := by decide +kernel
theorem dL_retrieveAll_2 : decode cL_retrieveAll 2 = .ok (.aload_n 0, 1) := by decide +kernel
theorem dL_retrieveAll_3 : decode cL_retrieveAll 3 = .ok (.lload_n 1, 1) := by decide +kernel
theorem dL_retrieveAll_4 : decode cL_retrieveAll 4 = .ok (.invokevirtual 67, 3) := by decide +kernel
theorem dL_retrieveAll_7 : decode cL_retrieveAll 7 = .ok (.i2l, 1) := by decide +kernel
theorem dL_retrieveAll_8 : decode cL_retrieveAll 8 = .ok (.lastore, 1) := by decide +kernel
theorem dL_retrieveAll_9 : decode cL_retrieveAll 9 = .ok (.goto 15, 3) := by decide +kernel
theorem dL_retrieveAll_12 : decode cL_retrieveAll 12 = .ok (.astore 4, 2) := by decide +kernel
theorem dL_retrieveAll_14 : decode cL_retrieveAll 14 = .ok (.iconst 1, 1) := by decide +kernel
theorem dL_retrieveAll_15 : decode cL_retrieveAll 15 = .ok (.ireturn, 1) := by decide +kernel
theorem dL_retrieveAll_16 : decode cL_retrieveAll 16 = .ok (.astore 4, 2) := by decide +kernel
theorem dL_retrieveAll_18 : decode cL_retrieveAll 18 = .ok (.iconst 2, 1) := by decide +kernel
theorem dL_retrieveAll_19 : decode cL_retrieveAll 19 = .ok (.ireturn, 1) := by decide +kernel
theorem dL_retrieveAll_20 : decode cL_retrieveAll 20 = .ok (.astore 4, 2) := by decide +kernel
theorem dL_retrieveAll_22 : decode cL_retrieveAll 22 = .ok (.iconst 3, 1) := by decide +kernel
theorem dL_retrieveAll_23 : decode cL_retrieveAll 23 = .ok (.ireturn, 1) := by decide +kernel
theorem dL_retrieveAll_24 : decode cL_retrieveAll 24 = .ok (.iconst 0, 1) := by decide +kernel
theorem dL_retrieveAll_25 : decode cL_retrieveAll 25 = .ok (.ireturn, 1) := by decide +kernel
theorem dL_pass_0 : decode cL_pass 0 = .ok (.aload_n 2, 1) := by decide +kernel
theorem dL_pass_1 : decode cL_pass 1 = .ok (.iconst 0, 1) := by decide +kernel
theorem dL_pass_2 : decode cL_pass 2 = .ok (.aload_n 0, 1) := by decide +kernel
theorem dL_pass_3 : decode cL_pass 3 = .ok (.iload_n 1, 1) := by decide +kernel
theorem dL_pass_4 : decode cL_pass 4 = .ok (.invokevirtual 70, 3) := by decide +kernel
theorem dL_pass_7 : decode cL_pass 7 = .ok (.i2l, 1) := by decide +kernel
theorem dL_pass_8 : decode cL_pass 8 = .ok (.lastore, 1) := by decide +kernel
theorem dL_pass_9 : decode cL_pass 9 = .ok (.goto 9, 3) := by decide +kernel
theorem dL_pass_12 : decode cL_pass 12 = .ok (.astore_n 3, 1) := by decide +kernel
theorem dL_pass_13 : decode cL_pass 13 = .ok (.iconst 1, 1) := by decide +kernel
theorem dL_pass_14 : decode cL_pass 14 = .ok (.ireturn, 1) := by decide +kernel
theorem dL_pass_15 : decode cL_pass 15 = .ok (.astore_n 3, 1) := by decide +kernel
theorem dL_pass_16 : decode cL_pass 16 = .ok (.iconst 2, 1) := by decide +kernel
theorem dL_pass_17 : decode cL_pass 17 = .ok (.ireturn, 1) := by decide +kernel
theorem dL_pass_18 : decode cL_pass 18 = .ok (.iconst 0, 1) := by decide +kernel
theorem dL_pass_19 : decode cL_pass 19 = .ok (.ireturn, 1) := by decide +kernel
theorem dL_machine_0 : decode cL_machine 0 = .ok (.aload_n 3, 1) := by decide +kernel
theorem dL_machine_1 : decode cL_machine 1 = .ok (.iconst 0, 1) := by decide +kernel
theorem dL_machine_2 : decode cL_machine 2 = .ok (.aload_n 0, 1) := by decide +kernel
theorem dL_machine_3 : decode cL_machine 3 = .ok (.iload_n 1, 1) := by decide +kernel
theorem dL_machine_4 : decode cL_machine 4 = .ok (.iload_n 2, 1) := by decide +kernel
theorem dL_machine_5 : decode cL_machine 5 = .ok (.invokevirtual 73, 3) := by decide +kernel
theorem dL_machine_8 : decode cL_machine 8 = .ok (.i2l, 1) := by decide +kernel
theorem dL_machine_9 : decode cL_machine 9 = .ok (.lastore, 1) := by decide +kernel
theorem dL_machine_10 : decode cL_machine 10 = .ok (.goto 11, 3) := by decide +kernel
theorem dL_machine_13 : decode cL_machine 13 = .ok (.astore 4, 2) := by decide +kernel
theorem dL_machine_15 : decode cL_machine 15 = .ok (.iconst 1, 1) := by decide +kernel
theorem dL_machine_16 : decode cL_machine 16 = .ok (.ireturn, 1) := by decide +kernel
theorem dL_machine_17 : decode cL_machine 17 = .ok (.astore 4, 2) := by decide +kernel
theorem dL_machine_19 : decode cL_machine 19 = .ok (.iconst 2, 1) := by decide +kernel
theorem dL_machine_20 : decode cL_machine 20 = .ok (.ireturn, 1) := by decide +kernel
theorem dL_machine_21 : decode cL_machine 21 = .ok (.iconst 0, 1) := by decide +kernel
theorem dL_machine_22 : decode cL_machine 22 = .ok (.ireturn, 1) := by decide +kernel
theorem dL_job_0 : decode cL_job 0 = .ok (.aload_n 3, 1) := by decide +kernel
theorem dL_job_1 : decode cL_job 1 = .ok (.iconst 0, 1) := by decide +kernel
theorem dL_job_2 : decode cL_job 2 = .ok (.aload_n 0, 1) := by decide +kernel
theorem dL_job_3 : decode cL_job 3 = .ok (.iload_n 1, 1) := by decide +kernel
theorem dL_job_4 : decode cL_job 4 = .ok (.iload_n 2, 1) := by decide +kernel
theorem dL_job_5 : decode cL_job 5 = .ok (.invokevirtual 76, 3) := by decide +kernel
theorem dL_job_8 : decode cL_job 8 = .ok (.i2l, 1) := by decide +kernel
theorem dL_job_9 : decode cL_job 9 = .ok (.lastore, 1) := by decide +kernel
theorem dL_job_10 : decode cL_job 10 = .ok (.goto 11, 3) := by decide +kernel
theorem dL_job_13 : decode cL_job 13 = .ok (.astore 4, 2) := by decide +kernel
theorem dL_job_15 : decode cL_job 15 = .ok (.iconst 1, 1) := by decide +kernel
theorem dL_job_16 : decode cL_job 16 = .ok (.ireturn, 1) := by decide +kernel
theorem dL_job_17 : decode cL_job 17 = .ok (.astore 4, 2) := by decide +kernel
theorem dL_job_19 : decode cL_job 19 = .ok (.iconst 2, 1) := by decide +kernel
theorem dL_job_20 : decode cL_job 20 = .ok (.ireturn, 1) := by decide +kernel
theorem dL_job_21 : decode cL_job 21 = .ok (.iconst 0, 1) := by decide +kernel
theorem dL_job_22 : decode cL_job 22 = .ok (.ireturn, 1) := by decide +kernel
theorem dL_account_0 : decode cL_account 0 = .ok (.aload_n 2, 1) := by decide +kernel
theorem dL_account_1 : decode cL_account 1 = .ok (.iconst 0, 1) := by decide +kernel
theorem dL_account_2 : decode cL_account 2 = .ok (.aload_n 0, 1) := by decide +kernel
theorem dL_account_3 : decode cL_account 3 = .ok (.iload_n 1, 1) := by decide +kernel
theorem dL_account_4 : decode cL_account 4 = .ok (.invokevirtual 79, 3) := by decide +kernel
theorem dL_account_7 : decode cL_account 7 = .ok (.i2l, 1) := by decide +kernel
theorem dL_account_8 : decode cL_account 8 = .ok (.lastore, 1) := by decide +kernel
theorem dL_account_9 : decode cL_account 9 = .ok (.goto 6, 3) := by decide +kernel
theorem dL_account_12 : decode cL_account 12 = .ok (.astore_n 3, 1) := by decide +kernel
theorem dL_account_13 : decode cL_account 13 = .ok (.iconst 1, 1) := by decide +kernel
theorem dL_account_14 : decode cL_account 14 = .ok (.ireturn, 1) := by decide +kernel
theorem dL_account_15 : decode cL_account 15 = .ok (.iconst 0, 1) := by decide +kernel
theorem dL_account_16 : decode cL_account 16 = .ok (.ireturn, 1) := by decide +kernel
theorem dL_load_0 : decode cL_load 0 = .ok (.aload_n 2, 1) := by decide +kernel
theorem dL_load_1 : decode cL_load 1 = .ok (.iconst 0, 1) := by decide +kernel
theorem dL_load_2 : decode cL_load 2 = .ok (.aload_n 0, 1) := by decide +kernel
theorem dL_load_3 : decode cL_load 3 = .ok (.iload_n 1, 1) := by decide +kernel
theorem dL_load_4 : decode cL_load 4 = .ok (.invokevirtual 82, 3) := by decide +kernel
theorem dL_load_7 : decode cL_load 7 = .ok (.f2d, 1) := by decide +kernel
theorem dL_load_8 : decode cL_load 8 = .ok (.dastore, 1) := by decide +kernel
theorem dL_load_9 : decode cL_load 9 = .ok (.goto 9, 3) := by decide +kernel
theorem dL_load_12 : decode cL_load 12 = .ok (.astore_n 3, 1) := by decide +kernel
theorem dL_load_13 : decode cL_load 13 = .ok (.iconst 1, 1) := by decide +kernel
theorem dL_load_14 : decode cL_load 14 = .ok (.ireturn, 1) := by decide +kernel
theorem dL_load_15 : decode cL_load 15 = .ok (.astore_n 3, 1) := by decide +kernel
theorem dL_load_16 : decode cL_load 16 = .ok (.iconst 2, 1) := by decide +kernel
theorem dL_load_17 : decode cL_load 17 = .ok (.ireturn, 1) := by decide +kernel
theorem dL_load_18 : decode cL_load 18 = .ok (.iconst 0, 1) := by decide +kernel
theorem dL_load_19 : decode cL_load 19 = .ok (.ireturn, 1) := by decide +kernel
theorem dL_meanJob_0 : decode cL_meanJob 0 = .ok (.aload_n 1, 1) := by decide +kernel
theorem dL_meanJob_1 : decode cL_meanJob 1 = .ok (.iconst 0, 1) := by decide +kernel
theorem dL_meanJob_2 : decode cL_meanJob 2 = .ok (.aload_n 0, 1) := by decide +kernel
theorem dL_meanJob_3 : decode cL_meanJob 3 = .ok (.invokevirtual 88, 3) := by decide +kernel
theorem dL_meanJob_6 : decode cL_meanJob 6 = .ok (.dastore, 1) := by decide +kernel
theorem dL_meanJob_7 : decode cL_meanJob 7 = .ok (.goto 6, 3) := by decide +kernel
theorem dL_meanJob_10 : decode cL_meanJob 10 = .ok (.astore_n 2, 1) := by decide +kernel
theorem dL_meanJob_11 : decode cL_meanJob 11 = .ok (.iconst 1, 1) := by decide +kernel
theorem dL_meanJob_12 : decode cL_meanJob 12 = .ok (.ireturn, 1) := by decide +kernel
theorem dL_meanJob_13 : decode cL_meanJob 13 = .ok (.iconst 0, 1) := by decide +kernel
theorem dL_meanJob_14 : decode cL_meanJob 14 = .ok (.ireturn, 1) := by decide +kernel
theorem dL_report_0 : decode cL_report 0 = .ok (.aload_n 3, 1) := by decide +kernel
theorem dL_report_1 : decode cL_report 1 = .ok (.iconst 0, 1) := by decide +kernel
theorem dL_report_2 : decode cL_report 2 = .ok (.aload_n 0, 1) := by decide +kernel
theorem dL_report_3 : decode cL_report 3 = .ok (.iload_n 1, 1) := by decide +kernel
theorem dL_report_4 : decode cL_report 4 = .ok (.iload_n 2, 1) := by decide +kernel
theorem dL_report_5 : decode cL_report 5 = .ok (.invokevirtual 92, 3) := by decide +kernel
theorem dL_report_8 : decode cL_report 8 = .ok (.i2l, 1) := by decide +kernel
theorem dL_report_9 : decode cL_report 9 = .ok (.lastore, 1) := by decide +kernel
theorem dL_report_10 : decode cL_report 10 = .ok (.goto 11, 3) := by decide +kernel
theorem dL_report_13 : decode cL_report 13 = .ok (.astore 4, 2) := by decide +kernel
theorem dL_report_15 : decode cL_report 15 = .ok (.iconst 1, 1) := by decide +kernel
theorem dL_report_16 : decode cL_report 16 = .ok (.ireturn, 1) := by decide +kernel
theorem dL_report_17 : decode cL_report 17 = .ok (.astore 4, 2) := by decide +kernel
theorem dL_report_19 : decode cL_report 19 = .ok (.iconst 2, 1) := by decide +kernel
theorem dL_report_20 : decode cL_report 20 = .ok (.ireturn, 1) := by decide +kernel
theorem dL_report_21 : decode cL_report 21 = .ok (.iconst 0, 1) := by decide +kernel
theorem dL_report_22 : decode cL_report 22 = .ok (.ireturn, 1) := by decide +kernel
theorem dL_feed_0 : decode cL_feed 0 = .ok (.aload_n 2, 1) := by decide +kernel
theorem dL_feed_1 : decode cL_feed 1 = .ok (.iconst 0, 1) := by decide +kernel
theorem dL_feed_2 : decode cL_feed 2 = .ok (.aload_n 0, 1) := by decide +kernel
theorem dL_feed_3 : decode cL_feed 3 = .ok (.iload_n 1, 1) := by decide +kernel
theorem dL_feed_4 : decode cL_feed 4 = .ok (.invokevirtual 95, 3) := by decide +kernel
theorem dL_feed_7 : decode cL_feed 7 = .ok (.i2l, 1) := by decide +kernel
theorem dL_feed_8 : decode cL_feed 8 = .ok (.lastore, 1) := by decide +kernel
theorem dL_feed_9 : decode cL_feed 9 = .ok (.goto 6, 3) := by decide +kernel
theorem dL_feed_12 : decode cL_feed 12 = .ok (.astore_n 3, 1) := by decide +kernel
theorem dL_feed_13 : decode cL_feed 13 = .ok (.iconst 1, 1) := by decide +kernel
theorem dL_feed_14 : decode cL_feed 14 = .ok (.ireturn, 1) := by decide +kernel
theorem dL_feed_15 : decode cL_feed 15 = .ok (.iconst 0, 1) := by decide +kernel
theorem dL_feed_16 : decode cL_feed 16 = .ok (.ireturn, 1) := by decide +kernel
theorem dL_perform_0 : decode cL_perform 0 = .ok (.aload_n 1, 1) := by decide +kernel
theorem dL_perform_1 : decode cL_perform 1 = .ok (.iconst 0, 1) := by decide +kernel
theorem dL_perform_2 : decode cL_perform 2 = .ok (.aload_n 0, 1) := by decide +kernel
theorem dL_perform_3 : decode cL_perform 3 = .ok (.invokevirtual 99, 3) := by decide +kernel
theorem dL_perform_6 : decode cL_perform 6 = .ok (.i2l, 1) := by decide +kernel
theorem dL_perform_7 : decode cL_perform 7 = .ok (.lastore, 1) := by decide +kernel
theorem dL_perform_8 : decode cL_perform 8 = .ok (.goto 6, 3) := by decide +kernel
theorem dL_perform_11 : decode cL_perform 11 = .ok (.astore_n 2, 1) := by decide +kernel
theorem dL_perform_12 : decode cL_perform 12 = .ok (.iconst 1, 1) := by decide +kernel
theorem dL_perform_13 : decode cL_perform 13 = .ok (.ireturn, 1) := by decide +kernel
theorem dL_perform_14 : decode cL_perform 14 = .ok (.iconst 0, 1) := by decide +kernel
theorem dL_perform_15 : decode cL_perform 15 = .ok (.ireturn, 1) := by decide +kernel
theorem dL_undo_0 : decode cL_undo 0 = .ok (.aload_n 1, 1) := by decide +kernel
theorem dL_undo_1 : decode cL_undo 1 = .ok (.iconst 0, 1) := by decide +kernel
theorem dL_undo_2 : decode cL_undo 2 = .ok (.aload_n 0, 1) := by decide +kernel
theorem dL_undo_3 : decode cL_undo 3 = .ok (.invokevirtual 103, 3) := by decide +kernel
theorem dL_undo_6 : decode cL_undo 6 = .ok (.i2l, 1) := by decide +kernel
theorem dL_undo_7 : decode cL_undo 7 = .ok (.lastore, 1) := by decide +kernel
theorem dL_undo_8 : decode cL_undo 8 = .ok (.goto 6, 3) := by decide +kernel
theorem dL_undo_11 : decode cL_undo 11 = .ok (.astore_n 2, 1) := by decide +kernel
theorem dL_undo_12 : decode cL_undo 12 = .ok (.iconst 1, 1) := by decide +kernel
theorem dL_undo_13 : decode cL_undo 13 = .ok (.ireturn, 1) := by decide +kernel
theorem dL_undo_14 : decode cL_undo 14 = .ok (.iconst 0, 1) := by decide +kernel
theorem dL_undo_15 : decode cL_undo 15 = .ok (.ireturn, 1) := by decide +kernel
theorem dL_restore_0 : decode cL_restore 0 = .ok (.aload_n 1, 1) := by decide +kernel
theorem dL_restore_1 : decode cL_restore 1 = .ok (.iconst 0, 1) := by decide +kernel
theorem dL_restore_2 : decode cL_restore 2 = .ok (.aload_n 0, 1) := by decide +kernel
theorem dL_restore_3 : decode cL_restore 3 = .ok (.invokevirtual 106, 3) := by decide +kernel
theorem dL_restore_6 : decode cL_restore 6 = .ok (.i2l, 1) := by decide +kernel
theorem dL_restore_7 : decode cL_restore 7 = .ok (.lastore, 1) := by decide +kernel
theorem dL_restore_8 : decode cL_restore 8 = .ok (.goto 6, 3) := by decide +kernel
theorem dL_restore_11 : decode cL_restore 11 = .ok (.astore_n 2, 1) := by decide +kernel
theorem dL_restore_12 : decode cL_restore 12 = .ok (.iconst 1, 1) := by decide +kernel
theorem dL_restore_13 : decode cL_restore 13 = .ok (.ireturn, 1) := by decide +kernel
theorem dL_restore_14 : decode cL_restore 14 = .ok (.iconst 0, 1) := by decide +kernel
theorem dL_restore_15 : decode cL_restore 15 = .ok (.ireturn, 1) := by decide +kernel
end
section
theorem dX8_thrown_0 : decode cX8_thrown 0 = .ok (.aload_n 0, 1) := by decide +kernel
theorem dX8_thrown_1 : decode cX8_thrown 1 = .ok (.getfield 3, 3) := by decide +kernel
theorem dX8_thrown_4 : decode cX8_thrown 4 = .ok (.ireturn, 1) := by decide +kernel
theorem dX8_init_0 : decode cX8_init 0 = .ok (.aload_n 0, 1) := by decide +kernel
theorem dX8_init_1 : decode cX8_init 1 = .ok (.invokespecial 7, 3) := by decide +kernel
theorem dX8_init_4 : decode cX8_init 4 = .ok (.aload_n 0, 1) := by decide +kernel
theorem dX8_init_5 : decode cX8_init 5 = .ok (.iconst 0, 1) := by decide +kernel
theorem dX8_init_6 : decode cX8_init 6 = .ok (.putfield 3, 3) := by decide +kernel
theorem dX8_init_9 : decode cX8_init 9 = .ok (.aload_n 0, 1) := by decide +kernel
theorem dX8_init_10 : decode cX8_init 10 = .ok (.sipush 399, 3) := by decide +kernel
theorem dX8_init_13 : decode cX8_init 13 = .ok (.newarray .int, 2) := by decide +kernel
theorem dX8_init_15 : decode cX8_init 15 = .ok (.putfield 13, 3) := by decide +kernel
theorem dX8_init_18 : decode cX8_init 18 = .ok (.aload_n 0, 1) := by decide +kernel
theorem dX8_init_19 : decode cX8_init 19 = .ok (.sipush 399, 3) := by decide +kernel
theorem dX8_init_22 : decode cX8_init 22 = .ok (.newarray .int, 2) := by decide +kernel
theorem dX8_init_24 : decode cX8_init 24 = .ok (.putfield 17, 3) := by decide +kernel
theorem dX8_init_27 : decode cX8_init 27 = .ok (.aload_n 0, 1) := by decide +kernel
theorem dX8_init_28 : decode cX8_init 28 = .ok (.sipush 399, 3) := by decide +kernel
theorem dX8_init_31 : decode cX8_init 31 = .ok (.newarray .int, 2) := by decide +kernel
theorem dX8_init_33 : decode cX8_init 33 = .ok (.putfield 20, 3) := by decide +kernel
theorem dX8_init_36 : decode cX8_init 36 = .ok (.aload_n 0, 1) := by decide +kernel
theorem dX8_init_37 : decode cX8_init 37 = .ok (.sipush 399, 3) := by decide +kernel
theorem dX8_init_40 : decode cX8_init 40 = .ok (.newarray .int, 2) := by decide +kernel
theorem dX8_init_42 : decode cX8_init 42 = .ok (.putfield 23, 3) := by decide +kernel
theorem dX8_init_45 : decode cX8_init 45 = .ok (.aload_n 0, 1) := by decide +kernel
theorem dX8_init_46 : decode cX8_init 46 = .ok (.sipush 2394, 3) := by decide +kernel
theorem dX8_init_49 : decode cX8_init 49 = .ok (.newarray .int, 2) := by decide +kernel
theorem dX8_init_51 : decode cX8_init 51 = .ok (.putfield 26, 3) := by decide +kernel
theorem dX8_init_54 : decode cX8_init 54 = .ok (.aload_n 0, 1) := by decide +kernel
theorem dX8_init_55 : decode cX8_init 55 = .ok (.iconst 0, 1) := by decide +kernel
theorem dX8_init_56 : decode cX8_init 56 = .ok (.putfield 29, 3) := by decide +kernel
theorem dX8_init_59 : decode cX8_init 59 = .ok (.aload_n 0, 1) := by decide +kernel
theorem dX8_init_60 : decode cX8_init 60 = .ok (.iconst 0, 1) := by decide +kernel
theorem dX8_init_61 : decode cX8_init 61 = .ok (.putfield 32, 3) := by decide +kernel
theorem dX8_init_64 : decode cX8_init 64 = .ok (.aload_n 0, 1) := by decide +kernel
theorem dX8_init_65 : decode cX8_init 65 = .ok (.iconst 0, 1) := by decide +kernel
theorem dX8_init_66 : decode cX8_init 66 = .ok (.putfield 36, 3) := by decide +kernel
theorem dX8_init_69 : decode cX8_init 69 = .ok (.aload_n 0, 1) := by decide +kernel
theorem dX8_init_70 : decode cX8_init 70 = .ok (.iconst 0, 1) := by decide +kernel
theorem dX8_init_71 : decode cX8_init 71 = .ok (.putfield 39, 3) := by decide +kernel
theorem dX8_init_74 : decode cX8_init 74 = .ok (.aload_n 0, 1) := by decide +kernel
theorem dX8_init_75 : decode cX8_init 75 = .ok (.iconst (-1), 1) := by decide +kernel
theorem dX8_init_76 : decode cX8_init 76 = .ok (.putfield 42, 3) := by decide +kernel
theorem dX8_init_79 : decode cX8_init 79 = .ok (.aload_n 0, 1) := by decide +kernel
theorem dX8_init_80 : decode cX8_init 80 = .ok (.iconst (-1), 1) := by decide +kernel
theorem dX8_init_81 : decode cX8_init 81 = .ok (.putfield 45, 3) := by decide +kernel
theorem dX8_init_84 : decode cX8_init 84 = .ok (.aload_n 0, 1) := by decide +kernel
theorem dX8_init_85 : decode cX8_init 85 = .ok (.iconst 0, 1) := by decide +kernel
theorem dX8_init_86 : decode cX8_init 86 = .ok (.putfield 48, 3) := by decide +kernel
theorem dX8_init_89 : decode cX8_init 89 = .ok (.aload_n 0, 1) := by decide +kernel
theorem dX8_init_90 : decode cX8_init 90 = .ok (.iconst 5, 1) := by decide +kernel
theorem dX8_init_91 : decode cX8_init 91 = .ok (.newarray .int, 2) := by decide +kernel
theorem dX8_init_93 : decode cX8_init 93 = .ok (.putfield 51, 3) := by decide +kernel
theorem dX8_init_96 : decode cX8_init 96 = .ok (.aload_n 0, 1) := by decide +kernel
theorem dX8_init_97 : decode cX8_init 97 = .ok (.iconst 5, 1) := by decide +kernel
theorem dX8_init_98 : decode cX8_init 98 = .ok (.newarray .int, 2) := by decide +kernel
theorem dX8_init_100 : decode cX8_init 100 = .ok (.putfield 54, 3) := by decide +kernel
theorem dX8_init_103 : decode cX8_init 103 = .ok (.aload_n 0, 1) := by decide +kernel
theorem dX8_init_104 : decode cX8_init 104 = .ok (.iconst 5, 1) := by decide +kernel
theorem dX8_init_105 : decode cX8_init 105 = .ok (.newarray .int, 2) := by decide +kernel
theorem dX8_init_107 : decode cX8_init 107 = .ok (.putfield 57, 3) := by decide +kernel
theorem dX8_init_110 : decode cX8_init 110 = .ok (.aload_n 0, 1) := by decide +kernel
theorem dX8_init_111 : decode cX8_init 111 = .ok (.iconst 0, 1) := by decide +kernel
theorem dX8_init_112 : decode cX8_init 112 = .ok (.putfield 60, 3) := by decide +kernel
theorem dX8_init_115 : decode cX8_init 115 = .ok (.aload_n 0, 1) := by decide +kernel
theorem dX8_init_116 : decode cX8_init 116 = .ok (.iconst 0, 1) := by decide +kernel
theorem dX8_init_117 : decode cX8_init 117 = .ok (.putfield 63, 3) := by decide +kernel
theorem dX8_init_120 : decode cX8_init 120 = .ok (.aload_n 0, 1) := by decide +kernel
theorem dX8_init_121 : decode cX8_init 121 = .ok (.iconst 0, 1) := by decide +kernel
theorem dX8_init_122 : decode cX8_init 122 = .ok (.putfield 66, 3) := by decide +kernel
theorem dX8_init_125 : decode cX8_init 125 = .ok (.aload_n 0, 1) := by decide +kernel
theorem dX8_init_126 : decode cX8_init 126 = .ok (.iconst 0, 1) := by decide +kernel
theorem dX8_init_127 : decode cX8_init 127 = .ok (.putfield 69, 3) := by decide +kernel
theorem dX8_init_130 : decode cX8_init 130 = .ok (.aload_n 0, 1) := by decide +kernel
theorem dX8_init_131 : decode cX8_init 131 = .ok (.iconst 0, 1) := by decide +kernel
theorem dX8_init_132 : decode cX8_init 132 = .ok (.putfield 72, 3) := by decide +kernel
theorem dX8_init_135 : decode cX8_init 135 = .ok (.aload_n 0, 1) := by decide +kernel
theorem dX8_init_136 : decode cX8_init 136 = .ok (.bipush 60, 2) := by decide +kernel
theorem dX8_init_138 : decode cX8_init 138 = .ok (.newarray .int, 2) := by decide +kernel
theorem dX8_init_140 : decode cX8_init 140 = .ok (.putfield 75, 3) := by decide +kernel
theorem dX8_init_143 : decode cX8_init 143 = .ok (.aload_n 0, 1) := by decide +kernel
theorem dX8_init_144 : decode cX8_init 144 = .ok (.bipush 60, 2) := by decide +kernel
theorem dX8_init_146 : decode cX8_init 146 = .ok (.newarray .int, 2) := by decide +kernel
theorem dX8_init_148 : decode cX8_init 148 = .ok (.putfield 78, 3) := by decide +kernel
theorem dX8_init_151 : decode cX8_init 151 = .ok (.aload_n 0, 1) := by decide +kernel
theorem dX8_init_152 : decode cX8_init 152 = .ok (.iconst 2, 1) := by decide +kernel
theorem dX8_init_153 : decode cX8_init 153 = .ok (.newarray .int, 2) := by decide +kernel
theorem dX8_init_155 : decode cX8_init 155 = .ok (.putfield 81, 3) := by decide +kernel
theorem dX8_init_158 : decode cX8_init 158 = .ok (.aload_n 0, 1) := by decide +kernel
theorem dX8_init_159 : decode cX8_init 159 = .ok (.iconst 0, 1) := by decide +kernel
theorem dX8_init_160 : decode cX8_init 160 = .ok (.putfield 84, 3) := by decide +kernel
theorem dX8_init_163 : decode cX8_init 163 = .ok (.aload_n 0, 1) := by decide +kernel
theorem dX8_init_164 : decode cX8_init 164 = .ok (.iconst 0, 1) := by decide +kernel
theorem dX8_init_165 : decode cX8_init 165 = .ok (.putfield 87, 3) := by decide +kernel
theorem dX8_init_168 : decode cX8_init 168 = .ok (.aload_n 0, 1) := by decide +kernel
theorem dX8_init_169 : decode cX8_init 169 = .ok (.iconst 0, 1) := by decide +kernel
theorem dX8_init_170 : decode cX8_init 170 = .ok (.putfield 90, 3) := by decide +kernel
theorem dX8_init_173 : decode cX8_init 173 = .ok (.iconst 0, 1) := by decide +kernel
theorem dX8_init_174 : decode cX8_init 174 = .ok (.istore_n 1, 1) := by decide +kernel
theorem dX8_init_175 : decode cX8_init 175 = .ok (.iload_n 1, 1) := by decide +kernel
theorem dX8_init_176 : decode cX8_init 176 = .ok (.bipush 60, 2) := by decide +kernel
theorem dX8_init_178 : decode cX8_init 178 = .ok (.if_icmp .ge 19, 3) := by decide +kernel
theorem dX8_init_181 : decode cX8_init 181 = .ok (.aload_n 0, 1) := by decide +kernel
theorem dX8_init_182 : decode cX8_init 182 = .ok (.getfield 13, 3) := by decide +kernel
theorem dX8_init_185 : decode cX8_init 185 = .ok (.bipush 79, 2) := by decide +kernel
theorem dX8_init_187 : decode cX8_init 187 = .ok (.iload_n 1, 1) := by decide +kernel
theorem dX8_init_188 : decode cX8_init 188 = .ok (.iadd, 1) := by decide +kernel
theorem dX8_init_189 : decode cX8_init 189 = .ok (.iconst (-1), 1) := by decide +kernel
theorem dX8_init_190 : decode cX8_init 190 = .ok (.iastore, 1) := by decide +kernel
theorem dX8_init_191 : decode cX8_init 191 = .ok (.iinc 1 1, 3) := by decide +kernel
theorem dX8_init_194 : decode cX8_init 194 = .ok (.goto (-19), 3) := by decide +kernel
theorem dX8_init_197 : decode cX8_init 197 = .ok (.return_, 1) := by decide +kernel
theorem dX8_in_0 : decode cX8_in 0 = .ok (.iload_n 0, 1) := by decide +kernel
theorem dX8_in_1 : decode cX8_in 1 = .ok (.iload_n 1, 1) := by decide +kernel
theorem dX8_in_2 : decode cX8_in 2 = .ok (.if_icmp .lt 12, 3) := by decide +kernel
theorem dX8_in_5 : decode cX8_in 5 = .ok (.iload_n 0, 1) := by decide +kernel
theorem dX8_in_6 : decode cX8_in 6 = .ok (.iload_n 2, 1) := by decide +kernel
theorem dX8_in_7 : decode cX8_in 7 = .ok (.if_icmp .gt 7, 3) := by decide +kernel
theorem dX8_in_10 : decode cX8_in 10 = .ok (.iconst 1, 1) := by decide +kernel
theorem dX8_in_11 : decode cX8_in 11 = .ok (.goto 4, 3) := by decide +kernel
theorem dX8_in_14 : decode cX8_in 14 = .ok (.iconst 0, 1) := by decide +kernel
theorem dX8_in_15 : decode cX8_in 15 = .ok (.ireturn, 1) := by decide +kernel
theorem dX8_fails_0 : decode cX8_fails 0 = .ok (.aload_n 0, 1) := by decide +kernel
theorem dX8_fails_1 : decode cX8_fails 1 = .ok (.iload_n 1, 1) := by decide +kernel
theorem dX8_fails_2 : decode cX8_fails 2 = .ok (.putfield 3, 3) := by decide +kernel
theorem dX8_fails_5 : decode cX8_fails 5 = .ok (.iconst 0, 1) := by decide +kernel
theorem dX8_fails_6 : decode cX8_fails 6 = .ok (.ireturn, 1) := by decide +kernel
theorem dX8_copies_0 : decode cX8_copies 0 = .ok (.iconst 0, 1) := by decide +kernel
theorem dX8_copies_1 : decode cX8_copies 1 = .ok (.istore 4, 2) := by decide +kernel
theorem dX8_copies_3 : decode cX8_copies 3 = .ok (.iload 4, 2) := by decide +kernel
theorem dX8_copies_5 : decode cX8_copies 5 = .ok (.sipush 399, 3) := by decide +kernel
theorem dX8_copies_8 : decode cX8_copies 8 = .ok (.if_icmp .ge 21, 3) := by decide +kernel
theorem dX8_copies_11 : decode cX8_copies 11 = .ok (.aload_n 2, 1) := by decide +kernel
theorem dX8_copies_12 : decode cX8_copies 12 = .ok (.iload_n 3, 1) := by decide +kernel
theorem dX8_copies_13 : decode cX8_copies 13 = .ok (.iload 4, 2) := by decide +kernel
theorem dX8_copies_15 : decode cX8_copies 15 = .ok (.iadd, 1) := by decide +kernel
theorem dX8_copies_16 : decode cX8_copies 16 = .ok (.aload_n 0, 1) := by decide +kernel
theorem dX8_copies_17 : decode cX8_copies 17 = .ok (.iload_n 1, 1) := by decide +kernel
theorem dX8_copies_18 : decode cX8_copies 18 = .ok (.iload 4, 2) := by decide +kernel
theorem dX8_copies_20 : decode cX8_copies 20 = .ok (.iadd, 1) := by decide +kernel
theorem dX8_copies_21 : decode cX8_copies 21 = .ok (.iaload, 1) := by decide +kernel
theorem dX8_copies_22 : decode cX8_copies 22 = .ok (.iastore, 1) := by decide +kernel
theorem dX8_copies_23 : decode cX8_copies 23 = .ok (.iinc 4 1, 3) := by decide +kernel
theorem dX8_copies_26 : decode cX8_copies 26 = .ok (.goto (-23), 3) := by decide +kernel
theorem dX8_copies_29 : decode cX8_copies 29 = .ok (.return_, 1) := by decide +kernel
theorem dX8_begins_0 : decode cX8_begins 0 = .ok (.aload_n 0, 1) := by decide +kernel
theorem dX8_begins_1 : decode cX8_begins 1 = .ok (.iconst 0, 1) := by decide +kernel
theorem dX8_begins_2 : decode cX8_begins 2 = .ok (.putfield 3, 3) := by decide +kernel
theorem dX8_begins_5 : decode cX8_begins 5 = .ok (.aload_n 0, 1) := by decide +kernel
theorem dX8_begins_6 : decode cX8_begins 6 = .ok (.getfield 13, 3) := by decide +kernel
theorem dX8_begins_9 : decode cX8_begins 9 = .ok (.iconst 0, 1) := by decide +kernel
theorem dX8_begins_10 : decode cX8_begins 10 = .ok (.aload_n 0, 1) := by decide +kernel
theorem dX8_begins_11 : decode cX8_begins 11 = .ok (.getfield 17, 3) := by decide +kernel
theorem dX8_begins_14 : decode cX8_begins 14 = .ok (.iconst 0, 1) := by decide +kernel
theorem dX8_begins_15 : decode cX8_begins 15 = .ok (.invokestatic 93, 3) := by decide +kernel
theorem dX8_begins_18 : decode cX8_begins 18 = .ok (.return_, 1) := by decide +kernel
theorem dX8_ends_0 : decode cX8_ends 0 = .ok (.aload_n 0, 1) := by decide +kernel
theorem dX8_ends_1 : decode cX8_ends 1 = .ok (.getfield 3, 3) := by decide +kernel
theorem dX8_ends_4 : decode cX8_ends 4 = .ok (.ifCond .eq 5, 3) := by decide +kernel
theorem dX8_ends_7 : decode cX8_ends 7 = .ok (.iload_n 1, 1) := by decide +kernel
theorem dX8_ends_8 : decode cX8_ends 8 = .ok (.ireturn, 1) := by decide +kernel
theorem dX8_ends_9 : decode cX8_ends 9 = .ok (.aload_n 0, 1) := by decide +kernel
theorem dX8_ends_10 : decode cX8_ends 10 = .ok (.getfield 29, 3) := by decide +kernel
theorem dX8_ends_13 : decode cX8_ends 13 = .ok (.bipush 6, 2) := by decide +kernel
theorem dX8_ends_15 : decode cX8_ends 15 = .ok (.if_icmp .ne 50, 3) := by decide +kernel
theorem dX8_ends_18 : decode cX8_ends 18 = .ok (.iconst 1, 1) := by decide +kernel
theorem dX8_ends_19 : decode cX8_ends 19 = .ok (.istore_n 2, 1) := by decide +kernel
theorem dX8_ends_20 : decode cX8_ends 20 = .ok (.iload_n 2, 1) := by decide +kernel
theorem dX8_ends_21 : decode cX8_ends 21 = .ok (.bipush 6, 2) := by decide +kernel
theorem dX8_ends_23 : decode cX8_ends 23 = .ok (.if_icmp .ge 32, 3) := by decide +kernel
theorem dX8_ends_26 : decode cX8_ends 26 = .ok (.aload_n 0, 1) := by decide +kernel
theorem dX8_ends_27 : decode cX8_ends 27 = .ok (.getfield 26, 3) := by decide +kernel
theorem dX8_ends_30 : decode cX8_ends 30 = .ok (.sipush 399, 3) := by decide +kernel
theorem dX8_ends_33 : decode cX8_ends 33 = .ok (.iload_n 2, 1) := by decide +kernel
theorem dX8_ends_34 : decode cX8_ends 34 = .ok (.imul, 1) := by decide +kernel
theorem dX8_ends_35 : decode cX8_ends 35 = .ok (.aload_n 0, 1) := by decide +kernel
theorem dX8_ends_36 : decode cX8_ends 36 = .ok (.getfield 26, 3) := by decide +kernel
theorem dX8_ends_39 : decode cX8_ends 39 = .ok (.sipush 399, 3) := by decide +kernel
theorem dX8_ends_42 : decode cX8_ends 42 = .ok (.iload_n 2, 1) := by decide +kernel
theorem dX8_ends_43 : decode cX8_ends 43 = .ok (.iconst 1, 1) := by decide +kernel
theorem dX8_ends_44 : decode cX8_ends 44 = .ok (.isub, 1) := by decide +kernel
theorem dX8_ends_45 : decode cX8_ends 45 = .ok (.imul, 1) := by decide +kernel
theorem dX8_ends_46 : decode cX8_ends 46 = .ok (.invokestatic 93, 3) := by decide +kernel
theorem dX8_ends_49 : decode cX8_ends 49 = .ok (.iinc 2 1, 3) := by decide +kernel
theorem dX8_ends_52 : decode cX8_ends 52 = .ok (.goto (-32), 3) := by decide +kernel
theorem dX8_ends_55 : decode cX8_ends 55 = .ok (.aload_n 0, 1) := by decide +kernel
theorem dX8_ends_56 : decode cX8_ends 56 = .ok (.dup, 1) := by decide +kernel
theorem dX8_ends_57 : decode cX8_ends 57 = .ok (.getfield 29, 3) := by decide +kernel
theorem dX8_ends_60 : decode cX8_ends 60 = .ok (.iconst 1, 1) := by decide +kernel
theorem dX8_ends_61 : decode cX8_ends 61 = .ok (.isub, 1) := by decide +kernel
theorem dX8_ends_62 : decode cX8_ends 62 = .ok (.putfield 29, 3) := by decide +kernel
theorem dX8_ends_65 : decode cX8_ends 65 = .ok (.aload_n 0, 1) := by decide +kernel
theorem dX8_ends_66 : decode cX8_ends 66 = .ok (.getfield 17, 3) := by decide +kernel
theorem dX8_ends_69 : decode cX8_ends 69 = .ok (.iconst 0, 1) := by decide +kernel
theorem dX8_ends_70 : decode cX8_ends 70 = .ok (.aload_n 0, 1) := by decide +kernel
theorem dX8_ends_71 : decode cX8_ends 71 = .ok (.getfield 26, 3) := by decide +kernel
theorem dX8_ends_74 : decode cX8_ends 74 = .ok (.sipush 399, 3) := by decide +kernel
theorem dX8_ends_77 : decode cX8_ends 77 = .ok (.aload_n 0, 1) := by decide +kernel
theorem dX8_ends_78 : decode cX8_ends 78 = .ok (.getfield 29, 3) := by decide +kernel
theorem dX8_ends_81 : decode cX8_ends 81 = .ok (.imul, 1) := by decide +kernel
theorem dX8_ends_82 : decode cX8_ends 82 = .ok (.invokestatic 93, 3) := by decide +kernel
theorem dX8_ends_85 : decode cX8_ends 85 = .ok (.aload_n 0, 1) := by decide +kernel
theorem dX8_ends_86 : decode cX8_ends 86 = .ok (.dup, 1) := by decide +kernel
theorem dX8_ends_87 : decode cX8_ends 87 = .ok (.getfield 29, 3) := by decide +kernel
theorem dX8_ends_90 : decode cX8_ends 90 = .ok (.iconst 1, 1) := by decide +kernel
theorem dX8_ends_91 : decode cX8_ends 91 = .ok (.iadd, 1) := by decide +kernel
theorem dX8_ends_92 : decode cX8_ends 92 = .ok (.putfield 29, 3) := by decide +kernel
theorem dX8_ends_95 : decode cX8_ends 95 = .ok (.iload_n 1, 1) := by decide +kernel
theorem dX8_ends_96 : decode cX8_ends 96 = .ok (.ireturn, 1) := by decide +kernel
theorem dX8_level_0 : decode cX8_level 0 = .ok (.iload_n 0, 1) := by decide +kernel
theorem dX8_level_1 : decode cX8_level 1 = .ok (.bipush 20, 2) := by decide +kernel
theorem dX8_level_3 : decode cX8_level 3 = .ok (.idiv, 1) := by decide +kernel
theorem dX8_level_4 : decode cX8_level 4 = .ok (.ireturn, 1) := by decide +kernel
theorem dX8_side_0 : decode cX8_side 0 = .ok (.iload_n 0, 1) := by decide +kernel
theorem dX8_side_1 : decode cX8_side 1 = .ok (.bipush 10, 2) := by decide +kernel
theorem dX8_side_3 : decode cX8_side 3 = .ok (.idiv, 1) := by decide +kernel
theorem dX8_side_4 : decode cX8_side 4 = .ok (.iconst 2, 1) := by decide +kernel
theorem dX8_side_5 : decode cX8_side 5 = .ok (.irem, 1) := by decide +kernel
theorem dX8_side_6 : decode cX8_side 6 = .ok (.ireturn, 1) := by decide +kernel
theorem dX8_column_0 : decode cX8_column 0 = .ok (.iload_n 0, 1) := by decide +kernel
theorem dX8_column_1 : decode cX8_column 1 = .ok (.iconst 2, 1) := by decide +kernel
theorem dX8_column_2 : decode cX8_column 2 = .ok (.idiv, 1) := by decide +kernel
theorem dX8_column_3 : decode cX8_column 3 = .ok (.iconst 5, 1) := by decide +kernel
theorem dX8_column_4 : decode cX8_column 4 = .ok (.irem, 1) := by decide +kernel
theorem dX8_column_5 : decode cX8_column 5 = .ok (.ireturn, 1) := by decide +kernel
theorem dX8_depth_0 : decode cX8_depth 0 = .ok (.iload_n 0, 1) := by decide +kernel
theorem dX8_depth_1 : decode cX8_depth 1 = .ok (.iconst 2, 1) := by decide +kernel
theorem dX8_depth_2 : decode cX8_depth 2 = .ok (.irem, 1) := by decide +kernel
theorem dX8_depth_3 : decode cX8_depth 3 = .ok (.ireturn, 1) := by decide +kernel
theorem dX8_isWide_0 : decode cX8_isWide 0 = .ok (.iload_n 0, 1) := by decide +kernel
theorem dX8_isWide_1 : decode cX8_isWide 1 = .ok (.invokestatic 97, 3) := by decide +kernel
theorem dX8_isWide_4 : decode cX8_isWide 4 = .ok (.iconst 2, 1) := by decide +kernel
theorem dX8_isWide_5 : decode cX8_isWide 5 = .ok (.irem, 1) := by decide +kernel
theorem dX8_isWide_6 : decode cX8_isWide 6 = .ok (.ifCond .ne 7, 3) := by decide +kernel
theorem dX8_isWide_9 : decode cX8_isWide 9 = .ok (.iconst 1, 1) := by decide +kernel
theorem dX8_isWide_10 : decode cX8_isWide 10 = .ok (.goto 4, 3) := by decide +kernel
theorem dX8_isWide_13 : decode cX8_isWide 13 = .ok (.iconst 0, 1) := by decide +kernel
theorem dX8_isWide_14 : decode cX8_isWide 14 = .ok (.ireturn, 1) := by decide +kernel
theorem dX8_isEmpty_0 : decode cX8_isEmpty 0 = .ok (.aload_n 0, 1) := by decide +kernel
theorem dX8_isEmpty_1 : decode cX8_isEmpty 1 = .ok (.getfield 13, 3) := by decide +kernel
theorem dX8_isEmpty_4 : decode cX8_isEmpty 4 = .ok (.bipush 79, 2) := by decide +kernel
theorem dX8_isEmpty_6 : decode cX8_isEmpty 6 = .ok (.iload_n 1, 1) := by decide +kernel
theorem dX8_isEmpty_7 : decode cX8_isEmpty 7 = .ok (.iadd, 1) := by decide +kernel
theorem dX8_isEmpty_8 : decode cX8_isEmpty 8 = .ok (.iaload, 1) := by decide +kernel
theorem dX8_isEmpty_9 : decode cX8_isEmpty 9 = .ok (.ifCond .ge 7, 3) := by decide +kernel
theorem dX8_isEmpty_12 : decode cX8_isEmpty 12 = .ok (.iconst 1, 1) := by decide +kernel
theorem dX8_isEmpty_13 : decode cX8_isEmpty 13 = .ok (.goto 4, 3) := by decide +kernel
theorem dX8_isEmpty_16 : decode cX8_isEmpty 16 = .ok (.iconst 0, 1) := by decide +kernel
theorem dX8_isEmpty_17 : decode cX8_isEmpty 17 = .ok (.ireturn, 1) := by decide +kernel
theorem dX8_isReached_0 : decode cX8_isReached 0 = .ok (.iload_n 1, 1) := by decide +kernel
theorem dX8_isReached_1 : decode cX8_isReached 1 = .ok (.invokestatic 101, 3) := by decide +kernel
theorem dX8_isReached_4 : decode cX8_isReached 4 = .ok (.ifCond .eq 13, 3) := by decide +kernel
theorem dX8_isReached_7 : decode cX8_isReached 7 = .ok (.aload_n 0, 1) := by decide +kernel
theorem dX8_isReached_8 : decode cX8_isReached 8 = .ok (.iload_n 1, 1) := by decide +kernel
theorem dX8_isReached_9 : decode cX8_isReached 9 = .ok (.iconst 1, 1) := by decide +kernel
theorem dX8_isReached_10 : decode cX8_isReached 10 = .ok (.isub, 1) := by decide +kernel
theorem dX8_isReached_11 : decode cX8_isReached 11 = .ok (.invokevirtual 104, 3) := by decide +kernel
theorem dX8_isReached_14 : decode cX8_isReached 14 = .ok (.ifCond .eq 7, 3) := by decide +kernel
theorem dX8_isReached_17 : decode cX8_isReached 17 = .ok (.iconst 1, 1) := by decide +kernel
theorem dX8_isReached_18 : decode cX8_isReached 18 = .ok (.goto 4, 3) := by decide +kernel
theorem dX8_isReached_21 : decode cX8_isReached 21 = .ok (.iconst 0, 1) := by decide +kernel
theorem dX8_isReached_22 : decode cX8_isReached 22 = .ok (.ireturn, 1) := by decide +kernel
theorem dX8_of_0 : decode cX8_of 0 = .ok (.aload_n 0, 1) := by decide +kernel
theorem dX8_of_1 : decode cX8_of 1 = .ok (.getfield 13, 3) := by decide +kernel
theorem dX8_of_4 : decode cX8_of 4 = .ok (.sipush 139, 3) := by decide +kernel
theorem dX8_of_7 : decode cX8_of 7 = .ok (.iconst 4, 1) := by decide +kernel
theorem dX8_of_8 : decode cX8_of 8 = .ok (.iload_n 1, 1) := by decide +kernel
theorem dX8_of_9 : decode cX8_of 9 = .ok (.imul, 1) := by decide +kernel
theorem dX8_of_10 : decode cX8_of 10 = .ok (.iadd, 1) := by decide +kernel
theorem dX8_of_11 : decode cX8_of 11 = .ok (.iload_n 2, 1) := by decide +kernel
theorem dX8_of_12 : decode cX8_of 12 = .ok (.iadd, 1) := by decide +kernel
theorem dX8_of_13 : decode cX8_of 13 = .ok (.iaload, 1) := by decide +kernel
theorem dX8_of_14 : decode cX8_of 14 = .ok (.ireturn, 1) := by decide +kernel
theorem dX8_pickup_0 : decode cX8_pickup 0 = .ok (.aload_n 0, 1) := by decide +kernel
theorem dX8_pickup_1 : decode cX8_pickup 1 = .ok (.iload_n 1, 1) := by decide +kernel
theorem dX8_pickup_2 : decode cX8_pickup 2 = .ok (.iconst 1, 1) := by decide +kernel
theorem dX8_pickup_3 : decode cX8_pickup 3 = .ok (.invokevirtual 108, 3) := by decide +kernel
theorem dX8_pickup_6 : decode cX8_pickup 6 = .ok (.ireturn, 1) := by decide +kernel
theorem dX8_bayOf_0 : decode cX8_bayOf 0 = .ok (.aload_n 0, 1) := by decide +kernel
theorem dX8_bayOf_1 : decode cX8_bayOf 1 = .ok (.iload_n 1, 1) := by decide +kernel
theorem dX8_bayOf_2 : decode cX8_bayOf 2 = .ok (.iconst 2, 1) := by decide +kernel
theorem dX8_bayOf_3 : decode cX8_bayOf 3 = .ok (.invokevirtual 108, 3) := by decide +kernel
theorem dX8_bayOf_6 : decode cX8_bayOf 6 = .ok (.ireturn, 1) := by decide +kernel
theorem dX8_isCar_0 : decode cX8_isCar 0 = .ok (.iload_n 1, 1) := by decide +kernel
theorem dX8_isCar_1 : decode cX8_isCar 1 = .ok (.iconst 0, 1) := by decide +kernel
theorem dX8_isCar_2 : decode cX8_isCar 2 = .ok (.aload_n 0, 1) := by decide +kernel
theorem dX8_isCar_3 : decode cX8_isCar 3 = .ok (.getfield 13, 3) := by decide +kernel
theorem dX8_isCar_6 : decode cX8_isCar 6 = .ok (.iconst 1, 1) := by decide +kernel
theorem dX8_isCar_7 : decode cX8_isCar 7 = .ok (.iaload, 1) := by decide +kernel
theorem dX8_isCar_8 : decode cX8_isCar 8 = .ok (.iconst 1, 1) := by decide +kernel
theorem dX8_isCar_9 : decode cX8_isCar 9 = .ok (.isub, 1) := by decide +kernel
theorem dX8_isCar_10 : decode cX8_isCar 10 = .ok (.invokestatic 112, 3) := by decide +kernel
theorem dX8_isCar_13 : decode cX8_isCar 13 = .ok (.ifCond .eq 15, 3) := by decide +kernel
theorem dX8_isCar_16 : decode cX8_isCar 16 = .ok (.aload_n 0, 1) := by decide +kernel
theorem dX8_isCar_17 : decode cX8_isCar 17 = .ok (.iload_n 1, 1) := by decide +kernel
theorem dX8_isCar_18 : decode cX8_isCar 18 = .ok (.invokevirtual 116, 3) := by decide +kernel
theorem dX8_isCar_21 : decode cX8_isCar 21 = .ok (.ifCond .lt 7, 3) := by decide +kernel
theorem dX8_isCar_24 : decode cX8_isCar 24 = .ok (.iconst 1, 1) := by decide +kernel
theorem dX8_isCar_25 : decode cX8_isCar 25 = .ok (.goto 4, 3) := by decide +kernel
theorem dX8_isCar_28 : decode cX8_isCar 28 = .ok (.iconst 0, 1) := by decide +kernel
theorem dX8_isCar_29 : decode cX8_isCar 29 = .ok (.ireturn, 1) := by decide +kernel
theorem dX8_isBay_0 : decode cX8_isBay 0 = .ok (.iload_n 0, 1) := by decide +kernel
theorem dX8_isBay_1 : decode cX8_isBay 1 = .ok (.iconst 0, 1) := by decide +kernel
theorem dX8_isBay_2 : decode cX8_isBay 2 = .ok (.bipush 59, 2) := by decide +kernel
theorem dX8_isBay_4 : decode cX8_isBay 4 = .ok (.invokestatic 112, 3) := by decide +kernel
theorem dX8_isBay_7 : decode cX8_isBay 7 = .ok (.ireturn, 1) := by decide +kernel
theorem dX8_blocking_0 : decode cX8_blocking 0 = .ok (.aload_n 0, 1) := by decide +kernel
theorem dX8_blocking_1 : decode cX8_blocking 1 = .ok (.iload_n 1, 1) := by decide +kernel
theorem dX8_blocking_2 : decode cX8_blocking 2 = .ok (.invokevirtual 116, 3) := by decide +kernel
theorem dX8_blocking_5 : decode cX8_blocking 5 = .ok (.invokestatic 101, 3) := by decide +kernel
theorem dX8_blocking_8 : decode cX8_blocking 8 = .ok (.iconst 1, 1) := by decide +kernel
theorem dX8_blocking_9 : decode cX8_blocking 9 = .ok (.if_icmp .ne 21, 3) := by decide +kernel
theorem dX8_blocking_12 : decode cX8_blocking 12 = .ok (.aload_n 0, 1) := by decide +kernel
theorem dX8_blocking_13 : decode cX8_blocking 13 = .ok (.getfield 13, 3) := by decide +kernel
theorem dX8_blocking_16 : decode cX8_blocking 16 = .ok (.bipush 79, 2) := by decide +kernel
theorem dX8_blocking_18 : decode cX8_blocking 18 = .ok (.aload_n 0, 1) := by decide +kernel
theorem dX8_blocking_19 : decode cX8_blocking 19 = .ok (.iload_n 1, 1) := by decide +kernel
theorem dX8_blocking_20 : decode cX8_blocking 20 = .ok (.invokevirtual 116, 3) := by decide +kernel
theorem dX8_blocking_23 : decode cX8_blocking 23 = .ok (.iadd, 1) := by decide +kernel
theorem dX8_blocking_24 : decode cX8_blocking 24 = .ok (.iconst 1, 1) := by decide +kernel
theorem dX8_blocking_25 : decode cX8_blocking 25 = .ok (.isub, 1) := by decide +kernel
theorem dX8_blocking_26 : decode cX8_blocking 26 = .ok (.iaload, 1) := by decide +kernel
theorem dX8_blocking_27 : decode cX8_blocking 27 = .ok (.goto 4, 3) := by decide +kernel
theorem dX8_blocking_30 : decode cX8_blocking 30 = .ok (.iconst (-1), 1) := by decide +kernel
theorem dX8_blocking_31 : decode cX8_blocking 31 = .ok (.ireturn, 1) := by decide +kernel
theorem dX8_isBad_0 : decode cX8_isBad 0 = .ok (.iload_n 1, 1) := by decide +kernel
theorem dX8_isBad_1 : decode cX8_isBad 1 = .ok (.invokestatic 101, 3) := by decide +kernel
theorem dX8_isBad_4 : decode cX8_isBad 4 = .ok (.ifCond .ne 36, 3) := by decide +kernel
theorem dX8_isBad_7 : decode cX8_isBad 7 = .ok (.aload_n 0, 1) := by decide +kernel
theorem dX8_isBad_8 : decode cX8_isBad 8 = .ok (.iload_n 1, 1) := by decide +kernel
theorem dX8_isBad_9 : decode cX8_isBad 9 = .ok (.iconst 1, 1) := by decide +kernel
theorem dX8_isBad_10 : decode cX8_isBad 10 = .ok (.iadd, 1) := by decide +kernel
theorem dX8_isBad_11 : decode cX8_isBad 11 = .ok (.invokevirtual 104, 3) := by decide +kernel
theorem dX8_isBad_14 : decode cX8_isBad 14 = .ok (.ifCond .ne 26, 3) := by decide +kernel
theorem dX8_isBad_17 : decode cX8_isBad 17 = .ok (.aload_n 0, 1) := by decide +kernel
theorem dX8_isBad_18 : decode cX8_isBad 18 = .ok (.aload_n 0, 1) := by decide +kernel
theorem dX8_isBad_19 : decode cX8_isBad 19 = .ok (.getfield 13, 3) := by decide +kernel
theorem dX8_isBad_22 : decode cX8_isBad 22 = .ok (.bipush 79, 2) := by decide +kernel
theorem dX8_isBad_24 : decode cX8_isBad 24 = .ok (.iload_n 1, 1) := by decide +kernel
theorem dX8_isBad_25 : decode cX8_isBad 25 = .ok (.iadd, 1) := by decide +kernel
theorem dX8_isBad_26 : decode cX8_isBad 26 = .ok (.iconst 1, 1) := by decide +kernel
theorem dX8_isBad_27 : decode cX8_isBad 27 = .ok (.iadd, 1) := by decide +kernel
theorem dX8_isBad_28 : decode cX8_isBad 28 = .ok (.iaload, 1) := by decide +kernel
theorem dX8_isBad_29 : decode cX8_isBad 29 = .ok (.invokevirtual 119, 3) := by decide +kernel
theorem dX8_isBad_32 : decode cX8_isBad 32 = .ok (.iload_n 2, 1) := by decide +kernel
theorem dX8_isBad_33 : decode cX8_isBad 33 = .ok (.if_icmp .ge 7, 3) := by decide +kernel
theorem dX8_isBad_36 : decode cX8_isBad 36 = .ok (.iconst 1, 1) := by decide +kernel
theorem dX8_isBad_37 : decode cX8_isBad 37 = .ok (.goto 4, 3) := by decide +kernel
theorem dX8_isBad_40 : decode cX8_isBad 40 = .ok (.iconst 0, 1) := by decide +kernel
theorem dX8_isBad_41 : decode cX8_isBad 41 = .ok (.ireturn, 1) := by decide +kernel
theorem dX8_effort_0 : decode cX8_effort 0 = .ok (.iload_n 0, 1) := by decide +kernel
theorem dX8_effort_1 : decode cX8_effort 1 = .ok (.ifCond .ge 20, 3) := by decide +kernel
theorem dX8_effort_4 : decode cX8_effort 4 = .ok (.iconst 3, 1) := by decide +kernel
theorem dX8_effort_5 : decode cX8_effort 5 = .ok (.iload_n 1, 1) := by decide +kernel
theorem dX8_effort_6 : decode cX8_effort 6 = .ok (.invokestatic 122, 3) := by decide +kernel
theorem dX8_effort_9 : decode cX8_effort 9 = .ok (.imul, 1) := by decide +kernel
theorem dX8_effort_10 : decode cX8_effort 10 = .ok (.iload_n 1, 1) := by decide +kernel
theorem dX8_effort_11 : decode cX8_effort 11 = .ok (.invokestatic 97, 3) := by decide +kernel
theorem dX8_effort_14 : decode cX8_effort 14 = .ok (.iadd, 1) := by decide +kernel
theorem dX8_effort_15 : decode cX8_effort 15 = .ok (.iload_n 1, 1) := by decide +kernel
theorem dX8_effort_16 : decode cX8_effort 16 = .ok (.invokestatic 101, 3) := by decide +kernel
theorem dX8_effort_19 : decode cX8_effort 19 = .ok (.iadd, 1) := by decide +kernel
theorem dX8_effort_20 : decode cX8_effort 20 = .ok (.ireturn, 1) := by decide +kernel
theorem dX8_effort_21 : decode cX8_effort 21 = .ok (.iload_n 0, 1) := by decide +kernel
theorem dX8_effort_22 : decode cX8_effort 22 = .ok (.invokestatic 122, 3) := by decide +kernel
theorem dX8_effort_25 : decode cX8_effort 25 = .ok (.iload_n 1, 1) := by decide +kernel
theorem dX8_effort_26 : decode cX8_effort 26 = .ok (.invokestatic 122, 3) := by decide +kernel
theorem dX8_effort_29 : decode cX8_effort 29 = .ok (.if_icmp .ne 21, 3) := by decide +kernel
theorem dX8_effort_32 : decode cX8_effort 32 = .ok (.iload_n 0, 1) := by decide +kernel
theorem dX8_effort_33 : decode cX8_effort 33 = .ok (.invokestatic 97, 3) := by decide +kernel
theorem dX8_effort_36 : decode cX8_effort 36 = .ok (.iload_n 1, 1) := by decide +kernel
theorem dX8_effort_37 : decode cX8_effort 37 = .ok (.invokestatic 97, 3) := by decide +kernel
theorem dX8_effort_40 : decode cX8_effort 40 = .ok (.isub, 1) := by decide +kernel
theorem dX8_effort_41 : decode cX8_effort 41 = .ok (.invokestatic 125, 3) := by decide +kernel
theorem dX8_effort_44 : decode cX8_effort 44 = .ok (.iload_n 1, 1) := by decide +kernel
theorem dX8_effort_45 : decode cX8_effort 45 = .ok (.invokestatic 101, 3) := by decide +kernel
theorem dX8_effort_48 : decode cX8_effort 48 = .ok (.iadd, 1) := by decide +kernel
theorem dX8_effort_49 : decode cX8_effort 49 = .ok (.ireturn, 1) := by decide +kernel
theorem dX8_effort_50 : decode cX8_effort 50 = .ok (.bipush 20, 2) := by decide +kernel
theorem dX8_effort_52 : decode cX8_effort 52 = .ok (.iconst 3, 1) := by decide +kernel
theorem dX8_effort_53 : decode cX8_effort 53 = .ok (.iload_n 0, 1) := by decide +kernel
theorem dX8_effort_54 : decode cX8_effort 54 = .ok (.invokestatic 122, 3) := by decide +kernel
theorem dX8_effort_57 : decode cX8_effort 57 = .ok (.iload_n 1, 1) := by decide +kernel
theorem dX8_effort_58 : decode cX8_effort 58 = .ok (.invokestatic 122, 3) := by decide +kernel
theorem dX8_effort_61 : decode cX8_effort 61 = .ok (.isub, 1) := by decide +kernel
theorem dX8_effort_62 : decode cX8_effort 62 = .ok (.invokestatic 125, 3) := by decide +kernel
theorem dX8_effort_65 : decode cX8_effort 65 = .ok (.imul, 1) := by decide +kernel
theorem dX8_effort_66 : decode cX8_effort 66 = .ok (.iadd, 1) := by decide +kernel
theorem dX8_effort_67 : decode cX8_effort 67 = .ok (.iload_n 0, 1) := by decide +kernel
theorem dX8_effort_68 : decode cX8_effort 68 = .ok (.invokestatic 97, 3) := by decide +kernel
theorem dX8_effort_71 : decode cX8_effort 71 = .ok (.iadd, 1) := by decide +kernel
theorem dX8_effort_72 : decode cX8_effort 72 = .ok (.iload_n 1, 1) := by decide +kernel
theorem dX8_effort_73 : decode cX8_effort 73 = .ok (.invokestatic 97, 3) := by decide +kernel
theorem dX8_effort_76 : decode cX8_effort 76 = .ok (.iadd, 1) := by decide +kernel
theorem dX8_effort_77 : decode cX8_effort 77 = .ok (.iload_n 1, 1) := by decide +kernel
theorem dX8_effort_78 : decode cX8_effort 78 = .ok (.invokestatic 101, 3) := by decide +kernel
theorem dX8_effort_81 : decode cX8_effort 81 = .ok (.iadd, 1) := by decide +kernel
theorem dX8_effort_82 : decode cX8_effort 82 = .ok (.ireturn, 1) := by decide +kernel
theorem dX8_chosen_0 : decode cX8_chosen 0 = .ok (.iconst (-1), 1) := by decide +kernel
theorem dX8_chosen_1 : decode cX8_chosen 1 = .ok (.istore 4, 2) := by decide +kernel
theorem dX8_chosen_3 : decode cX8_chosen 3 = .ok (.iconst 0, 1) := by decide +kernel
theorem dX8_chosen_4 : decode cX8_chosen 4 = .ok (.istore 5, 2) := by decide +kernel
theorem dX8_chosen_6 : decode cX8_chosen 6 = .ok (.iconst 0, 1) := by decide +kernel
theorem dX8_chosen_7 : decode cX8_chosen 7 = .ok (.istore 6, 2) := by decide +kernel
theorem dX8_chosen_9 : decode cX8_chosen 9 = .ok (.iload 6, 2) := by decide +kernel
theorem dX8_chosen_11 : decode cX8_chosen 11 = .ok (.bipush 60, 2) := by decide +kernel
theorem dX8_chosen_13 : decode cX8_chosen 13 = .ok (.if_icmp .ge 106, 3) := by decide +kernel
theorem dX8_chosen_16 : decode cX8_chosen 16 = .ok (.aload_n 0, 1) := by decide +kernel
theorem dX8_chosen_17 : decode cX8_chosen 17 = .ok (.getfield 13, 3) := by decide +kernel
theorem dX8_chosen_20 : decode cX8_chosen 20 = .ok (.bipush 19, 2) := by decide +kernel
theorem dX8_chosen_22 : decode cX8_chosen 22 = .ok (.iload 6, 2) := by decide +kernel
theorem dX8_chosen_24 : decode cX8_chosen 24 = .ok (.iadd, 1) := by decide +kernel
theorem dX8_chosen_25 : decode cX8_chosen 25 = .ok (.iaload, 1) := by decide +kernel
theorem dX8_chosen_26 : decode cX8_chosen 26 = .ok (.iconst 1, 1) := by decide +kernel
theorem dX8_chosen_27 : decode cX8_chosen 27 = .ok (.if_icmp .eq 86, 3) := by decide +kernel
theorem dX8_chosen_30 : decode cX8_chosen 30 = .ok (.aload_n 0, 1) := by decide +kernel
theorem dX8_chosen_31 : decode cX8_chosen 31 = .ok (.iload 6, 2) := by decide +kernel
theorem dX8_chosen_33 : decode cX8_chosen 33 = .ok (.invokevirtual 104, 3) := by decide +kernel
theorem dX8_chosen_36 : decode cX8_chosen 36 = .ok (.ifCond .eq 77, 3) := by decide +kernel
theorem dX8_chosen_39 : decode cX8_chosen 39 = .ok (.iload_n 1, 1) := by decide +kernel
theorem dX8_chosen_40 : decode cX8_chosen 40 = .ok (.iconst 1, 1) := by decide +kernel
theorem dX8_chosen_41 : decode cX8_chosen 41 = .ok (.if_icmp .ne 11, 3) := by decide +kernel
theorem dX8_chosen_44 : decode cX8_chosen 44 = .ok (.iload 6, 2) := by decide +kernel
theorem dX8_chosen_46 : decode cX8_chosen 46 = .ok (.invokestatic 130, 3) := by decide +kernel
theorem dX8_chosen_49 : decode cX8_chosen 49 = .ok (.ifCond .eq 64, 3) := by decide +kernel
theorem dX8_chosen_52 : decode cX8_chosen 52 = .ok (.aload_n 0, 1) := by decide +kernel
theorem dX8_chosen_53 : decode cX8_chosen 53 = .ok (.iload 6, 2) := by decide +kernel
theorem dX8_chosen_55 : decode cX8_chosen 55 = .ok (.invokevirtual 133, 3) := by decide +kernel
theorem dX8_chosen_58 : decode cX8_chosen 58 = .ok (.ifCond .ne 6, 3) := by decide +kernel
theorem dX8_chosen_61 : decode cX8_chosen 61 = .ok (.goto 52, 3) := by decide +kernel
theorem dX8_chosen_64 : decode cX8_chosen 64 = .ok (.iload_n 3, 1) := by decide +kernel
theorem dX8_chosen_65 : decode cX8_chosen 65 = .ok (.iload 6, 2) := by decide +kernel
theorem dX8_chosen_67 : decode cX8_chosen 67 = .ok (.invokestatic 136, 3) := by decide +kernel
theorem dX8_chosen_70 : decode cX8_chosen 70 = .ok (.aload_n 0, 1) := by decide +kernel
theorem dX8_chosen_71 : decode cX8_chosen 71 = .ok (.iload 6, 2) := by decide +kernel
theorem dX8_chosen_73 : decode cX8_chosen 73 = .ok (.iload_n 2, 1) := by decide +kernel
theorem dX8_chosen_74 : decode cX8_chosen 74 = .ok (.invokevirtual 139, 3) := by decide +kernel
theorem dX8_chosen_77 : decode cX8_chosen 77 = .ok (.ifCond .eq 9, 3) := by decide +kernel
theorem dX8_chosen_80 : decode cX8_chosen 80 = .ok (.sipush 1000, 3) := by decide +kernel
theorem dX8_chosen_83 : decode cX8_chosen 83 = .ok (.goto 4, 3) := by decide +kernel
theorem dX8_chosen_86 : decode cX8_chosen 86 = .ok (.iconst 0, 1) := by decide +kernel
theorem dX8_chosen_87 : decode cX8_chosen 87 = .ok (.iadd, 1) := by decide +kernel
theorem dX8_chosen_88 : decode cX8_chosen 88 = .ok (.istore 7, 2) := by decide +kernel
theorem dX8_chosen_90 : decode cX8_chosen 90 = .ok (.iload 4, 2) := by decide +kernel
theorem dX8_chosen_92 : decode cX8_chosen 92 = .ok (.ifCond .lt 13, 3) := by decide +kernel
theorem dX8_chosen_95 : decode cX8_chosen 95 = .ok (.iload 7, 2) := by decide +kernel
theorem dX8_chosen_97 : decode cX8_chosen 97 = .ok (.iload 5, 2) := by decide +kernel
theorem dX8_chosen_99 : decode cX8_chosen 99 = .ok (.if_icmp .lt 6, 3) := by decide +kernel
theorem dX8_chosen_102 : decode cX8_chosen 102 = .ok (.goto 11, 3) := by decide +kernel
theorem dX8_chosen_105 : decode cX8_chosen 105 = .ok (.iload 6, 2) := by decide +kernel
theorem dX8_chosen_107 : decode cX8_chosen 107 = .ok (.istore 4, 2) := by decide +kernel
theorem dX8_chosen_109 : decode cX8_chosen 109 = .ok (.iload 7, 2) := by decide +kernel
theorem dX8_chosen_111 : decode cX8_chosen 111 = .ok (.istore 5, 2) := by decide +kernel
theorem dX8_chosen_113 : decode cX8_chosen 113 = .ok (.iinc 6 1, 3) := by decide +kernel
theorem dX8_chosen_116 : decode cX8_chosen 116 = .ok (.goto (-107), 3) := by decide +kernel
theorem dX8_chosen_119 : decode cX8_chosen 119 = .ok (.iload 4, 2) := by decide +kernel
theorem dX8_chosen_121 : decode cX8_chosen 121 = .ok (.ireturn, 1) := by decide +kernel
theorem dX8_at_0 : decode cX8_at 0 = .ok (.aload_n 0, 1) := by decide +kernel
theorem dX8_at_1 : decode cX8_at 1 = .ok (.getfield 13, 3) := by decide +kernel
theorem dX8_at_4 : decode cX8_at 4 = .ok (.bipush 7, 2) := by decide +kernel
theorem dX8_at_6 : decode cX8_at 6 = .ok (.iconst 3, 1) := by decide +kernel
theorem dX8_at_7 : decode cX8_at 7 = .ok (.iload_n 1, 1) := by decide +kernel
theorem dX8_at_8 : decode cX8_at 8 = .ok (.imul, 1) := by decide +kernel
theorem dX8_at_9 : decode cX8_at 9 = .ok (.iadd, 1) := by decide +kernel
theorem dX8_at_10 : decode cX8_at 10 = .ok (.iaload, 1) := by decide +kernel
theorem dX8_at_11 : decode cX8_at 11 = .ok (.ireturn, 1) := by decide +kernel
theorem dX8_ready_0 : decode cX8_ready 0 = .ok (.aload_n 0, 1) := by decide +kernel
theorem dX8_ready_1 : decode cX8_ready 1 = .ok (.getfield 13, 3) := by decide +kernel
theorem dX8_ready_4 : decode cX8_ready 4 = .ok (.iconst 0, 1) := by decide +kernel
theorem dX8_ready_5 : decode cX8_ready 5 = .ok (.iaload, 1) := by decide +kernel
theorem dX8_ready_6 : decode cX8_ready 6 = .ok (.aload_n 0, 1) := by decide +kernel
theorem dX8_ready_7 : decode cX8_ready 7 = .ok (.getfield 13, 3) := by decide +kernel
theorem dX8_ready_10 : decode cX8_ready 10 = .ok (.bipush 7, 2) := by decide +kernel
theorem dX8_ready_12 : decode cX8_ready 12 = .ok (.iconst 3, 1) := by decide +kernel
theorem dX8_ready_13 : decode cX8_ready 13 = .ok (.iload_n 1, 1) := by decide +kernel
theorem dX8_ready_14 : decode cX8_ready 14 = .ok (.imul, 1) := by decide +kernel
theorem dX8_ready_15 : decode cX8_ready 15 = .ok (.iadd, 1) := by decide +kernel
theorem dX8_ready_16 : decode cX8_ready 16 = .ok (.iconst 1, 1) := by decide +kernel
theorem dX8_ready_17 : decode cX8_ready 17 = .ok (.iadd, 1) := by decide +kernel
theorem dX8_ready_18 : decode cX8_ready 18 = .ok (.iaload, 1) := by decide +kernel
theorem dX8_ready_19 : decode cX8_ready 19 = .ok (.invokestatic 143, 3) := by decide +kernel
theorem dX8_ready_22 : decode cX8_ready 22 = .ok (.ireturn, 1) := by decide +kernel
theorem dX8_does_0 : decode cX8_does 0 = .ok (.aload_n 0, 1) := by decide +kernel
theorem dX8_does_1 : decode cX8_does 1 = .ok (.iload_n 1, 1) := by decide +kernel
theorem dX8_does_2 : decode cX8_does 2 = .ok (.invokevirtual 146, 3) := by decide +kernel
theorem dX8_does_5 : decode cX8_does 5 = .ok (.istore 4, 2) := by decide +kernel
theorem dX8_does_7 : decode cX8_does 7 = .ok (.aload_n 0, 1) := by decide +kernel
theorem dX8_does_8 : decode cX8_does 8 = .ok (.aload_n 0, 1) := by decide +kernel
theorem dX8_does_9 : decode cX8_does 9 = .ok (.getfield 36, 3) := by decide +kernel
theorem dX8_does_12 : decode cX8_does 12 = .ok (.iload 4, 2) := by decide +kernel
theorem dX8_does_14 : decode cX8_does 14 = .ok (.invokestatic 149, 3) := by decide +kernel
theorem dX8_does_17 : decode cX8_does 17 = .ok (.putfield 36, 3) := by decide +kernel
theorem dX8_does_20 : decode cX8_does 20 = .ok (.aload_n 0, 1) := by decide +kernel
theorem dX8_does_21 : decode cX8_does 21 = .ok (.aload_n 0, 1) := by decide +kernel
theorem dX8_does_22 : decode cX8_does 22 = .ok (.getfield 39, 3) := by decide +kernel
theorem dX8_does_25 : decode cX8_does 25 = .ok (.iload_n 2, 1) := by decide +kernel
theorem dX8_does_26 : decode cX8_does 26 = .ok (.invokestatic 143, 3) := by decide +kernel
theorem dX8_does_29 : decode cX8_does 29 = .ok (.putfield 39, 3) := by decide +kernel
theorem dX8_does_32 : decode cX8_does 32 = .ok (.aload_n 0, 1) := by decide +kernel
theorem dX8_does_33 : decode cX8_does 33 = .ok (.getfield 13, 3) := by decide +kernel
theorem dX8_does_36 : decode cX8_does 36 = .ok (.bipush 7, 2) := by decide +kernel
theorem dX8_does_38 : decode cX8_does 38 = .ok (.iconst 3, 1) := by decide +kernel
theorem dX8_does_39 : decode cX8_does 39 = .ok (.iload_n 1, 1) := by decide +kernel
theorem dX8_does_40 : decode cX8_does 40 = .ok (.imul, 1) := by decide +kernel
theorem dX8_does_41 : decode cX8_does 41 = .ok (.iadd, 1) := by decide +kernel
theorem dX8_does_42 : decode cX8_does 42 = .ok (.iload_n 3, 1) := by decide +kernel
theorem dX8_does_43 : decode cX8_does 43 = .ok (.iastore, 1) := by decide +kernel
theorem dX8_does_44 : decode cX8_does 44 = .ok (.aload_n 0, 1) := by decide +kernel
theorem dX8_does_45 : decode cX8_does 45 = .ok (.getfield 13, 3) := by decide +kernel
theorem dX8_does_48 : decode cX8_does 48 = .ok (.bipush 7, 2) := by decide +kernel
theorem dX8_does_50 : decode cX8_does 50 = .ok (.iconst 3, 1) := by decide +kernel
theorem dX8_does_51 : decode cX8_does 51 = .ok (.iload_n 1, 1) := by decide +kernel
theorem dX8_does_52 : decode cX8_does 52 = .ok (.imul, 1) := by decide +kernel
theorem dX8_does_53 : decode cX8_does 53 = .ok (.iadd, 1) := by decide +kernel
theorem dX8_does_54 : decode cX8_does 54 = .ok (.iconst 2, 1) := by decide +kernel
theorem dX8_does_55 : decode cX8_does 55 = .ok (.iadd, 1) := by decide +kernel
theorem dX8_does_56 : decode cX8_does 56 = .ok (.dup2, 1) := by decide +kernel
theorem dX8_does_57 : decode cX8_does 57 = .ok (.iaload, 1) := by decide +kernel
theorem dX8_does_58 : decode cX8_does 58 = .ok (.iload_n 2, 1) := by decide +kernel
theorem dX8_does_59 : decode cX8_does 59 = .ok (.iload 4, 2) := by decide +kernel
theorem dX8_does_61 : decode cX8_does 61 = .ok (.isub, 1) := by decide +kernel
theorem dX8_does_62 : decode cX8_does 62 = .ok (.iadd, 1) := by decide +kernel
theorem dX8_does_63 : decode cX8_does 63 = .ok (.iastore, 1) := by decide +kernel
theorem dX8_does_64 : decode cX8_does 64 = .ok (.aload_n 0, 1) := by decide +kernel
theorem dX8_does_65 : decode cX8_does 65 = .ok (.getfield 13, 3) := by decide +kernel
theorem dX8_does_68 : decode cX8_does 68 = .ok (.bipush 7, 2) := by decide +kernel
theorem dX8_does_70 : decode cX8_does 70 = .ok (.iconst 3, 1) := by decide +kernel
theorem dX8_does_71 : decode cX8_does 71 = .ok (.iload_n 1, 1) := by decide +kernel
theorem dX8_does_72 : decode cX8_does 72 = .ok (.imul, 1) := by decide +kernel
theorem dX8_does_73 : decode cX8_does 73 = .ok (.iadd, 1) := by decide +kernel
theorem dX8_does_74 : decode cX8_does 74 = .ok (.iconst 1, 1) := by decide +kernel
theorem dX8_does_75 : decode cX8_does 75 = .ok (.iadd, 1) := by decide +kernel
theorem dX8_does_76 : decode cX8_does 76 = .ok (.iload_n 2, 1) := by decide +kernel
theorem dX8_does_77 : decode cX8_does 77 = .ok (.iastore, 1) := by decide +kernel
theorem dX8_does_78 : decode cX8_does 78 = .ok (.return_, 1) := by decide +kernel
theorem dX8_notes_0 : decode cX8_notes 0 = .ok (.aload_n 0, 1) := by decide +kernel
theorem dX8_notes_1 : decode cX8_notes 1 = .ok (.getfield 13, 3) := by decide +kernel
theorem dX8_notes_4 : decode cX8_notes 4 = .ok (.bipush 6, 2) := by decide +kernel
theorem dX8_notes_6 : decode cX8_notes 6 = .ok (.iaload, 1) := by decide +kernel
theorem dX8_notes_7 : decode cX8_notes 7 = .ok (.bipush 20, 2) := by decide +kernel
theorem dX8_notes_9 : decode cX8_notes 9 = .ok (.if_icmp .ne 51, 3) := by decide +kernel
theorem dX8_notes_12 : decode cX8_notes 12 = .ok (.sipush 299, 3) := by decide +kernel
theorem dX8_notes_15 : decode cX8_notes 15 = .ok (.istore 4, 2) := by decide +kernel
theorem dX8_notes_17 : decode cX8_notes 17 = .ok (.iload 4, 2) := by decide +kernel
theorem dX8_notes_19 : decode cX8_notes 19 = .ok (.iconst 5, 1) := by decide +kernel
theorem dX8_notes_20 : decode cX8_notes 20 = .ok (.iadd, 1) := by decide +kernel
theorem dX8_notes_21 : decode cX8_notes 21 = .ok (.sipush 399, 3) := by decide +kernel
theorem dX8_notes_24 : decode cX8_notes 24 = .ok (.if_icmp .ge 25, 3) := by decide +kernel
theorem dX8_notes_27 : decode cX8_notes 27 = .ok (.aload_n 0, 1) := by decide +kernel
theorem dX8_notes_28 : decode cX8_notes 28 = .ok (.getfield 13, 3) := by decide +kernel
theorem dX8_notes_31 : decode cX8_notes 31 = .ok (.iload 4, 2) := by decide +kernel
theorem dX8_notes_33 : decode cX8_notes 33 = .ok (.aload_n 0, 1) := by decide +kernel
theorem dX8_notes_34 : decode cX8_notes 34 = .ok (.getfield 13, 3) := by decide +kernel
theorem dX8_notes_37 : decode cX8_notes 37 = .ok (.iload 4, 2) := by decide +kernel
theorem dX8_notes_39 : decode cX8_notes 39 = .ok (.iconst 5, 1) := by decide +kernel
theorem dX8_notes_40 : decode cX8_notes 40 = .ok (.iadd, 1) := by decide +kernel
theorem dX8_notes_41 : decode cX8_notes 41 = .ok (.iaload, 1) := by decide +kernel
theorem dX8_notes_42 : decode cX8_notes 42 = .ok (.iastore, 1) := by decide +kernel
theorem dX8_notes_43 : decode cX8_notes 43 = .ok (.iinc 4 1, 3) := by decide +kernel
theorem dX8_notes_46 : decode cX8_notes 46 = .ok (.goto (-29), 3) := by decide +kernel
theorem dX8_notes_49 : decode cX8_notes 49 = .ok (.aload_n 0, 1) := by decide +kernel
theorem dX8_notes_50 : decode cX8_notes 50 = .ok (.getfield 13, 3) := by decide +kernel
theorem dX8_notes_53 : decode cX8_notes 53 = .ok (.bipush 6, 2) := by decide +kernel
theorem dX8_notes_55 : decode cX8_notes 55 = .ok (.dup2, 1) := by decide +kernel
theorem dX8_notes_56 : decode cX8_notes 56 = .ok (.iaload, 1) := by decide +kernel
theorem dX8_notes_57 : decode cX8_notes 57 = .ok (.iconst 1, 1) := by decide +kernel
theorem dX8_notes_58 : decode cX8_notes 58 = .ok (.isub, 1) := by decide +kernel
theorem dX8_notes_59 : decode cX8_notes 59 = .ok (.iastore, 1) := by decide +kernel
theorem dX8_notes_60 : decode cX8_notes 60 = .ok (.sipush 299, 3) := by decide +kernel
theorem dX8_notes_63 : decode cX8_notes 63 = .ok (.iconst 5, 1) := by decide +kernel
theorem dX8_notes_64 : decode cX8_notes 64 = .ok (.aload_n 0, 1) := by decide +kernel
theorem dX8_notes_65 : decode cX8_notes 65 = .ok (.getfield 13, 3) := by decide +kernel
theorem dX8_notes_68 : decode cX8_notes 68 = .ok (.bipush 6, 2) := by decide +kernel
theorem dX8_notes_70 : decode cX8_notes 70 = .ok (.iaload, 1) := by decide +kernel
theorem dX8_notes_71 : decode cX8_notes 71 = .ok (.imul, 1) := by decide +kernel
theorem dX8_notes_72 : decode cX8_notes 72 = .ok (.iadd, 1) := by decide +kernel
theorem dX8_notes_73 : decode cX8_notes 73 = .ok (.istore 4, 2) := by decide +kernel
theorem dX8_notes_75 : decode cX8_notes 75 = .ok (.aload_n 0, 1) := by decide +kernel
theorem dX8_notes_76 : decode cX8_notes 76 = .ok (.getfield 13, 3) := by decide +kernel
theorem dX8_notes_79 : decode cX8_notes 79 = .ok (.iload 4, 2) := by decide +kernel
theorem dX8_notes_81 : decode cX8_notes 81 = .ok (.iload_n 1, 1) := by decide +kernel
theorem dX8_notes_82 : decode cX8_notes 82 = .ok (.iastore, 1) := by decide +kernel
theorem dX8_notes_83 : decode cX8_notes 83 = .ok (.aload_n 0, 1) := by decide +kernel
theorem dX8_notes_84 : decode cX8_notes 84 = .ok (.getfield 13, 3) := by decide +kernel
theorem dX8_notes_87 : decode cX8_notes 87 = .ok (.iload 4, 2) := by decide +kernel
theorem dX8_notes_89 : decode cX8_notes 89 = .ok (.iconst 1, 1) := by decide +kernel
theorem dX8_notes_90 : decode cX8_notes 90 = .ok (.iadd, 1) := by decide +kernel
theorem dX8_notes_91 : decode cX8_notes 91 = .ok (.iload_n 2, 1) := by decide +kernel
theorem dX8_notes_92 : decode cX8_notes 92 = .ok (.iastore, 1) := by decide +kernel
theorem dX8_notes_93 : decode cX8_notes 93 = .ok (.aload_n 0, 1) := by decide +kernel
theorem dX8_notes_94 : decode cX8_notes 94 = .ok (.getfield 13, 3) := by decide +kernel
theorem dX8_notes_97 : decode cX8_notes 97 = .ok (.iload 4, 2) := by decide +kernel
theorem dX8_notes_99 : decode cX8_notes 99 = .ok (.iconst 2, 1) := by decide +kernel
theorem dX8_notes_100 : decode cX8_notes 100 = .ok (.iadd, 1) := by decide +kernel
theorem dX8_notes_101 : decode cX8_notes 101 = .ok (.iload_n 3, 1) := by decide +kernel
theorem dX8_notes_102 : decode cX8_notes 102 = .ok (.iastore, 1) := by decide +kernel
theorem dX8_notes_103 : decode cX8_notes 103 = .ok (.aload_n 0, 1) := by decide +kernel
theorem dX8_notes_104 : decode cX8_notes 104 = .ok (.getfield 13, 3) := by decide +kernel
theorem dX8_notes_107 : decode cX8_notes 107 = .ok (.iload 4, 2) := by decide +kernel
theorem dX8_notes_109 : decode cX8_notes 109 = .ok (.iconst 3, 1) := by decide +kernel
theorem dX8_notes_110 : decode cX8_notes 110 = .ok (.iadd, 1) := by decide +kernel
theorem dX8_notes_111 : decode cX8_notes 111 = .ok (.aload_n 0, 1) := by decide +kernel
theorem dX8_notes_112 : decode cX8_notes 112 = .ok (.getfield 36, 3) := by decide +kernel
theorem dX8_notes_115 : decode cX8_notes 115 = .ok (.iastore, 1) := by decide +kernel
theorem dX8_notes_116 : decode cX8_notes 116 = .ok (.aload_n 0, 1) := by decide +kernel
theorem dX8_notes_117 : decode cX8_notes 117 = .ok (.getfield 13, 3) := by decide +kernel
theorem dX8_notes_120 : decode cX8_notes 120 = .ok (.iload 4, 2) := by decide +kernel
theorem dX8_notes_122 : decode cX8_notes 122 = .ok (.iconst 4, 1) := by decide +kernel
theorem dX8_notes_123 : decode cX8_notes 123 = .ok (.iadd, 1) := by decide +kernel
theorem dX8_notes_124 : decode cX8_notes 124 = .ok (.aload_n 0, 1) := by decide +kernel
theorem dX8_notes_125 : decode cX8_notes 125 = .ok (.getfield 39, 3) := by decide +kernel
theorem dX8_notes_128 : decode cX8_notes 128 = .ok (.iastore, 1) := by decide +kernel
theorem dX8_notes_129 : decode cX8_notes 129 = .ok (.aload_n 0, 1) := by decide +kernel
theorem dX8_notes_130 : decode cX8_notes 130 = .ok (.getfield 13, 3) := by decide +kernel
theorem dX8_notes_133 : decode cX8_notes 133 = .ok (.bipush 6, 2) := by decide +kernel
theorem dX8_notes_135 : decode cX8_notes 135 = .ok (.dup2, 1) := by decide +kernel
theorem dX8_notes_136 : decode cX8_notes 136 = .ok (.iaload, 1) := by decide +kernel
theorem dX8_notes_137 : decode cX8_notes 137 = .ok (.iconst 1, 1) := by decide +kernel
theorem dX8_notes_138 : decode cX8_notes 138 = .ok (.iadd, 1) := by decide +kernel
theorem dX8_notes_139 : decode cX8_notes 139 = .ok (.iastore, 1) := by decide +kernel
theorem dX8_notes_140 : decode cX8_notes 140 = .ok (.aload_n 0, 1) := by decide +kernel
theorem dX8_notes_141 : decode cX8_notes 141 = .ok (.getfield 13, 3) := by decide +kernel
theorem dX8_notes_144 : decode cX8_notes 144 = .ok (.iconst 4, 1) := by decide +kernel
theorem dX8_notes_145 : decode cX8_notes 145 = .ok (.dup2, 1) := by decide +kernel
theorem dX8_notes_146 : decode cX8_notes 146 = .ok (.iaload, 1) := by decide +kernel
theorem dX8_notes_147 : decode cX8_notes 147 = .ok (.aload_n 0, 1) := by decide +kernel
theorem dX8_notes_148 : decode cX8_notes 148 = .ok (.getfield 39, 3) := by decide +kernel
theorem dX8_notes_151 : decode cX8_notes 151 = .ok (.aload_n 0, 1) := by decide +kernel
theorem dX8_notes_152 : decode cX8_notes 152 = .ok (.getfield 36, 3) := by decide +kernel
theorem dX8_notes_155 : decode cX8_notes 155 = .ok (.isub, 1) := by decide +kernel
theorem dX8_notes_156 : decode cX8_notes 156 = .ok (.iadd, 1) := by decide +kernel
theorem dX8_notes_157 : decode cX8_notes 157 = .ok (.iastore, 1) := by decide +kernel
theorem dX8_notes_158 : decode cX8_notes 158 = .ok (.aload_n 0, 1) := by decide +kernel
theorem dX8_notes_159 : decode cX8_notes 159 = .ok (.getfield 13, 3) := by decide +kernel
theorem dX8_notes_162 : decode cX8_notes 162 = .ok (.iconst 5, 1) := by decide +kernel
theorem dX8_notes_163 : decode cX8_notes 163 = .ok (.aload_n 0, 1) := by decide +kernel
theorem dX8_notes_164 : decode cX8_notes 164 = .ok (.getfield 13, 3) := by decide +kernel
theorem dX8_notes_167 : decode cX8_notes 167 = .ok (.iconst 5, 1) := by decide +kernel
theorem dX8_notes_168 : decode cX8_notes 168 = .ok (.iaload, 1) := by decide +kernel
theorem dX8_notes_169 : decode cX8_notes 169 = .ok (.aload_n 0, 1) := by decide +kernel
theorem dX8_notes_170 : decode cX8_notes 170 = .ok (.getfield 39, 3) := by decide +kernel
theorem dX8_notes_173 : decode cX8_notes 173 = .ok (.invokestatic 143, 3) := by decide +kernel
theorem dX8_notes_176 : decode cX8_notes 176 = .ok (.iastore, 1) := by decide +kernel
theorem dX8_notes_177 : decode cX8_notes 177 = .ok (.aload_n 0, 1) := by decide +kernel
theorem dX8_notes_178 : decode cX8_notes 178 = .ok (.getfield 13, 3) := by decide +kernel
theorem dX8_notes_181 : decode cX8_notes 181 = .ok (.sipush 139, 3) := by decide +kernel
theorem dX8_notes_184 : decode cX8_notes 184 = .ok (.iconst 4, 1) := by decide +kernel
theorem dX8_notes_185 : decode cX8_notes 185 = .ok (.iload_n 1, 1) := by decide +kernel
theorem dX8_notes_186 : decode cX8_notes 186 = .ok (.imul, 1) := by decide +kernel
theorem dX8_notes_187 : decode cX8_notes 187 = .ok (.iadd, 1) := by decide +kernel
theorem dX8_notes_188 : decode cX8_notes 188 = .ok (.iconst 3, 1) := by decide +kernel
theorem dX8_notes_189 : decode cX8_notes 189 = .ok (.iadd, 1) := by decide +kernel
theorem dX8_notes_190 : decode cX8_notes 190 = .ok (.dup2, 1) := by decide +kernel
theorem dX8_notes_191 : decode cX8_notes 191 = .ok (.iaload, 1) := by decide +kernel
theorem dX8_notes_192 : decode cX8_notes 192 = .ok (.iconst 1, 1) := by decide +kernel
theorem dX8_notes_193 : decode cX8_notes 193 = .ok (.iadd, 1) := by decide +kernel
theorem dX8_notes_194 : decode cX8_notes 194 = .ok (.iastore, 1) := by decide +kernel
theorem dX8_notes_195 : decode cX8_notes 195 = .ok (.aload_n 0, 1) := by decide +kernel
theorem dX8_notes_196 : decode cX8_notes 196 = .ok (.getfield 13, 3) := by decide +kernel
theorem dX8_notes_199 : decode cX8_notes 199 = .ok (.sipush 139, 3) := by decide +kernel
theorem dX8_notes_202 : decode cX8_notes 202 = .ok (.iconst 4, 1) := by decide +kernel
theorem dX8_notes_203 : decode cX8_notes 203 = .ok (.iload_n 1, 1) := by decide +kernel
theorem dX8_notes_204 : decode cX8_notes 204 = .ok (.imul, 1) := by decide +kernel
theorem dX8_notes_205 : decode cX8_notes 205 = .ok (.iadd, 1) := by decide +kernel
theorem dX8_notes_206 : decode cX8_notes 206 = .ok (.iconst 2, 1) := by decide +kernel
theorem dX8_notes_207 : decode cX8_notes 207 = .ok (.iadd, 1) := by decide +kernel
theorem dX8_notes_208 : decode cX8_notes 208 = .ok (.iload_n 3, 1) := by decide +kernel
theorem dX8_notes_209 : decode cX8_notes 209 = .ok (.iastore, 1) := by decide +kernel
theorem dX8_notes_210 : decode cX8_notes 210 = .ok (.iload_n 2, 1) := by decide +kernel
theorem dX8_notes_211 : decode cX8_notes 211 = .ok (.ifCond .lt 13, 3) := by decide +kernel
theorem dX8_notes_214 : decode cX8_notes 214 = .ok (.aload_n 0, 1) := by decide +kernel
theorem dX8_notes_215 : decode cX8_notes 215 = .ok (.getfield 13, 3) := by decide +kernel
theorem dX8_notes_218 : decode cX8_notes 218 = .ok (.bipush 79, 2) := by decide +kernel
theorem dX8_notes_220 : decode cX8_notes 220 = .ok (.iload_n 2, 1) := by decide +kernel
theorem dX8_notes_221 : decode cX8_notes 221 = .ok (.iadd, 1) := by decide +kernel
theorem dX8_notes_222 : decode cX8_notes 222 = .ok (.iconst (-1), 1) := by decide +kernel
theorem dX8_notes_223 : decode cX8_notes 223 = .ok (.iastore, 1) := by decide +kernel
theorem dX8_notes_224 : decode cX8_notes 224 = .ok (.iload_n 3, 1) := by decide +kernel
theorem dX8_notes_225 : decode cX8_notes 225 = .ok (.ifCond .lt 13, 3) := by decide +kernel
theorem dX8_notes_228 : decode cX8_notes 228 = .ok (.aload_n 0, 1) := by decide +kernel
theorem dX8_notes_229 : decode cX8_notes 229 = .ok (.getfield 13, 3) := by decide +kernel
theorem dX8_notes_232 : decode cX8_notes 232 = .ok (.bipush 79, 2) := by decide +kernel
theorem dX8_notes_234 : decode cX8_notes 234 = .ok (.iload_n 3, 1) := by decide +kernel
theorem dX8_notes_235 : decode cX8_notes 235 = .ok (.iadd, 1) := by decide +kernel
theorem dX8_notes_236 : decode cX8_notes 236 = .ok (.iload_n 1, 1) := by decide +kernel
theorem dX8_notes_237 : decode cX8_notes 237 = .ok (.iastore, 1) := by decide +kernel
theorem dX8_notes_238 : decode cX8_notes 238 = .ok (.return_, 1) := by decide +kernel
theorem dX8_handling_0 : decode cX8_handling 0 = .ok (.iconst 2, 1) := by decide +kernel
theorem dX8_handling_1 : decode cX8_handling 1 = .ok (.iload_n 0, 1) := by decide +kernel
theorem dX8_handling_2 : decode cX8_handling 2 = .ok (.invokestatic 101, 3) := by decide +kernel
theorem dX8_handling_5 : decode cX8_handling 5 = .ok (.iadd, 1) := by decide +kernel
theorem dX8_handling_6 : decode cX8_handling 6 = .ok (.ireturn, 1) := by decide +kernel
theorem dX8_jobBegins_0 : decode cX8_jobBegins 0 = .ok (.aload_n 0, 1) := by decide +kernel
theorem dX8_jobBegins_1 : decode cX8_jobBegins 1 = .ok (.ldc 154, 2) := by decide +kernel
theorem dX8_jobBegins_3 : decode cX8_jobBegins 3 = .ok (.putfield 36, 3) := by decide +kernel
theorem dX8_jobBegins_6 : decode cX8_jobBegins 6 = .ok (.aload_n 0, 1) := by decide +kernel
theorem dX8_jobBegins_7 : decode cX8_jobBegins 7 = .ok (.iconst 0, 1) := by decide +kernel
theorem dX8_jobBegins_8 : decode cX8_jobBegins 8 = .ok (.putfield 39, 3) := by decide +kernel
theorem dX8_jobBegins_11 : decode cX8_jobBegins 11 = .ok (.return_, 1) := by decide +kernel
theorem dX8_bringsIn_0 : decode cX8_bringsIn 0 = .ok (.aload_n 0, 1) := by decide +kernel
theorem dX8_bringsIn_1 : decode cX8_bringsIn 1 = .ok (.invokevirtual 155, 3) := by decide +kernel
theorem dX8_bringsIn_4 : decode cX8_bringsIn 4 = .ok (.iload_n 2, 1) := by decide +kernel
theorem dX8_bringsIn_5 : decode cX8_bringsIn 5 = .ok (.invokestatic 122, 3) := by decide +kernel
theorem dX8_bringsIn_8 : decode cX8_bringsIn 8 = .ok (.istore_n 3, 1) := by decide +kernel
theorem dX8_bringsIn_9 : decode cX8_bringsIn 9 = .ok (.aload_n 0, 1) := by decide +kernel
theorem dX8_bringsIn_10 : decode cX8_bringsIn 10 = .ok (.iconst 3, 1) := by decide +kernel
theorem dX8_bringsIn_11 : decode cX8_bringsIn 11 = .ok (.invokevirtual 146, 3) := by decide +kernel
theorem dX8_bringsIn_14 : decode cX8_bringsIn 14 = .ok (.iconst 3, 1) := by decide +kernel
theorem dX8_bringsIn_15 : decode cX8_bringsIn 15 = .ok (.aload_n 0, 1) := by decide +kernel
theorem dX8_bringsIn_16 : decode cX8_bringsIn 16 = .ok (.iconst 3, 1) := by decide +kernel
theorem dX8_bringsIn_17 : decode cX8_bringsIn 17 = .ok (.invokevirtual 158, 3) := by decide +kernel
theorem dX8_bringsIn_20 : decode cX8_bringsIn 20 = .ok (.imul, 1) := by decide +kernel
theorem dX8_bringsIn_21 : decode cX8_bringsIn 21 = .ok (.iadd, 1) := by decide +kernel
theorem dX8_bringsIn_22 : decode cX8_bringsIn 22 = .ok (.iconst 2, 1) := by decide +kernel
theorem dX8_bringsIn_23 : decode cX8_bringsIn 23 = .ok (.iadd, 1) := by decide +kernel
theorem dX8_bringsIn_24 : decode cX8_bringsIn 24 = .ok (.iconst 3, 1) := by decide +kernel
theorem dX8_bringsIn_25 : decode cX8_bringsIn 25 = .ok (.iload_n 3, 1) := by decide +kernel
theorem dX8_bringsIn_26 : decode cX8_bringsIn 26 = .ok (.imul, 1) := by decide +kernel
theorem dX8_bringsIn_27 : decode cX8_bringsIn 27 = .ok (.iadd, 1) := by decide +kernel
theorem dX8_bringsIn_28 : decode cX8_bringsIn 28 = .ok (.istore 4, 2) := by decide +kernel
theorem dX8_bringsIn_30 : decode cX8_bringsIn 30 = .ok (.aload_n 0, 1) := by decide +kernel
theorem dX8_bringsIn_31 : decode cX8_bringsIn 31 = .ok (.iload_n 3, 1) := by decide +kernel
theorem dX8_bringsIn_32 : decode cX8_bringsIn 32 = .ok (.invokevirtual 146, 3) := by decide +kernel
theorem dX8_bringsIn_35 : decode cX8_bringsIn 35 = .ok (.aload_n 0, 1) := by decide +kernel
theorem dX8_bringsIn_36 : decode cX8_bringsIn 36 = .ok (.iload_n 3, 1) := by decide +kernel
theorem dX8_bringsIn_37 : decode cX8_bringsIn 37 = .ok (.invokevirtual 158, 3) := by decide +kernel
theorem dX8_bringsIn_40 : decode cX8_bringsIn 40 = .ok (.iadd, 1) := by decide +kernel
theorem dX8_bringsIn_41 : decode cX8_bringsIn 41 = .ok (.istore 5, 2) := by decide +kernel
theorem dX8_bringsIn_43 : decode cX8_bringsIn 43 = .ok (.iload 4, 2) := by decide +kernel
theorem dX8_bringsIn_45 : decode cX8_bringsIn 45 = .ok (.iload 5, 2) := by decide +kernel
theorem dX8_bringsIn_47 : decode cX8_bringsIn 47 = .ok (.invokestatic 143, 3) := by decide +kernel
theorem dX8_bringsIn_50 : decode cX8_bringsIn 50 = .ok (.iconst 2, 1) := by decide +kernel
theorem dX8_bringsIn_51 : decode cX8_bringsIn 51 = .ok (.iadd, 1) := by decide +kernel
theorem dX8_bringsIn_52 : decode cX8_bringsIn 52 = .ok (.istore 6, 2) := by decide +kernel
theorem dX8_bringsIn_54 : decode cX8_bringsIn 54 = .ok (.aload_n 0, 1) := by decide +kernel
theorem dX8_bringsIn_55 : decode cX8_bringsIn 55 = .ok (.iconst 3, 1) := by decide +kernel
theorem dX8_bringsIn_56 : decode cX8_bringsIn 56 = .ok (.iload 6, 2) := by decide +kernel
theorem dX8_bringsIn_58 : decode cX8_bringsIn 58 = .ok (.iload_n 3, 1) := by decide +kernel
theorem dX8_bringsIn_59 : decode cX8_bringsIn 59 = .ok (.invokevirtual 161, 3) := by decide +kernel
theorem dX8_bringsIn_62 : decode cX8_bringsIn 62 = .ok (.aload_n 0, 1) := by decide +kernel
theorem dX8_bringsIn_63 : decode cX8_bringsIn 63 = .ok (.iload_n 3, 1) := by decide +kernel
theorem dX8_bringsIn_64 : decode cX8_bringsIn 64 = .ok (.iload 6, 2) := by decide +kernel
theorem dX8_bringsIn_66 : decode cX8_bringsIn 66 = .ok (.iload_n 2, 1) := by decide +kernel
theorem dX8_bringsIn_67 : decode cX8_bringsIn 67 = .ok (.invokestatic 97, 3) := by decide +kernel
theorem dX8_bringsIn_70 : decode cX8_bringsIn 70 = .ok (.iadd, 1) := by decide +kernel
theorem dX8_bringsIn_71 : decode cX8_bringsIn 71 = .ok (.iload_n 2, 1) := by decide +kernel
theorem dX8_bringsIn_72 : decode cX8_bringsIn 72 = .ok (.invokestatic 165, 3) := by decide +kernel
theorem dX8_bringsIn_75 : decode cX8_bringsIn 75 = .ok (.iadd, 1) := by decide +kernel
theorem dX8_bringsIn_76 : decode cX8_bringsIn 76 = .ok (.iload_n 2, 1) := by decide +kernel
theorem dX8_bringsIn_77 : decode cX8_bringsIn 77 = .ok (.invokestatic 97, 3) := by decide +kernel
theorem dX8_bringsIn_80 : decode cX8_bringsIn 80 = .ok (.invokevirtual 161, 3) := by decide +kernel
theorem dX8_bringsIn_83 : decode cX8_bringsIn 83 = .ok (.aload_n 0, 1) := by decide +kernel
theorem dX8_bringsIn_84 : decode cX8_bringsIn 84 = .ok (.iload_n 1, 1) := by decide +kernel
theorem dX8_bringsIn_85 : decode cX8_bringsIn 85 = .ok (.iconst (-1), 1) := by decide +kernel
theorem dX8_bringsIn_86 : decode cX8_bringsIn 86 = .ok (.iload_n 2, 1) := by decide +kernel
theorem dX8_bringsIn_87 : decode cX8_bringsIn 87 = .ok (.invokevirtual 168, 3) := by decide +kernel
theorem dX8_bringsIn_90 : decode cX8_bringsIn 90 = .ok (.return_, 1) := by decide +kernel
theorem dX8_bringsOut_0 : decode cX8_bringsOut 0 = .ok (.aload_n 0, 1) := by decide +kernel
theorem dX8_bringsOut_1 : decode cX8_bringsOut 1 = .ok (.invokevirtual 155, 3) := by decide +kernel
theorem dX8_bringsOut_4 : decode cX8_bringsOut 4 = .ok (.aload_n 0, 1) := by decide +kernel
theorem dX8_bringsOut_5 : decode cX8_bringsOut 5 = .ok (.iload_n 1, 1) := by decide +kernel
theorem dX8_bringsOut_6 : decode cX8_bringsOut 6 = .ok (.invokevirtual 116, 3) := by decide +kernel
theorem dX8_bringsOut_9 : decode cX8_bringsOut 9 = .ok (.istore_n 2, 1) := by decide +kernel
theorem dX8_bringsOut_10 : decode cX8_bringsOut 10 = .ok (.iload_n 2, 1) := by decide +kernel
theorem dX8_bringsOut_11 : decode cX8_bringsOut 11 = .ok (.invokestatic 122, 3) := by decide +kernel
theorem dX8_bringsOut_14 : decode cX8_bringsOut 14 = .ok (.istore_n 3, 1) := by decide +kernel
theorem dX8_bringsOut_15 : decode cX8_bringsOut 15 = .ok (.aload_n 0, 1) := by decide +kernel
theorem dX8_bringsOut_16 : decode cX8_bringsOut 16 = .ok (.iload_n 3, 1) := by decide +kernel
theorem dX8_bringsOut_17 : decode cX8_bringsOut 17 = .ok (.invokevirtual 146, 3) := by decide +kernel
theorem dX8_bringsOut_20 : decode cX8_bringsOut 20 = .ok (.aload_n 0, 1) := by decide +kernel
theorem dX8_bringsOut_21 : decode cX8_bringsOut 21 = .ok (.iload_n 3, 1) := by decide +kernel
theorem dX8_bringsOut_22 : decode cX8_bringsOut 22 = .ok (.invokevirtual 158, 3) := by decide +kernel
theorem dX8_bringsOut_25 : decode cX8_bringsOut 25 = .ok (.iload_n 2, 1) := by decide +kernel
theorem dX8_bringsOut_26 : decode cX8_bringsOut 26 = .ok (.invokestatic 97, 3) := by decide +kernel
theorem dX8_bringsOut_29 : decode cX8_bringsOut 29 = .ok (.isub, 1) := by decide +kernel
theorem dX8_bringsOut_30 : decode cX8_bringsOut 30 = .ok (.invokestatic 125, 3) := by decide +kernel
theorem dX8_bringsOut_33 : decode cX8_bringsOut 33 = .ok (.iadd, 1) := by decide +kernel
theorem dX8_bringsOut_34 : decode cX8_bringsOut 34 = .ok (.iload_n 2, 1) := by decide +kernel
theorem dX8_bringsOut_35 : decode cX8_bringsOut 35 = .ok (.invokestatic 165, 3) := by decide +kernel
theorem dX8_bringsOut_38 : decode cX8_bringsOut 38 = .ok (.iadd, 1) := by decide +kernel
theorem dX8_bringsOut_39 : decode cX8_bringsOut 39 = .ok (.iload_n 2, 1) := by decide +kernel
theorem dX8_bringsOut_40 : decode cX8_bringsOut 40 = .ok (.invokestatic 97, 3) := by decide +kernel
theorem dX8_bringsOut_43 : decode cX8_bringsOut 43 = .ok (.iadd, 1) := by decide +kernel
theorem dX8_bringsOut_44 : decode cX8_bringsOut 44 = .ok (.istore 4, 2) := by decide +kernel
theorem dX8_bringsOut_46 : decode cX8_bringsOut 46 = .ok (.aload_n 0, 1) := by decide +kernel
theorem dX8_bringsOut_47 : decode cX8_bringsOut 47 = .ok (.iconst 3, 1) := by decide +kernel
theorem dX8_bringsOut_48 : decode cX8_bringsOut 48 = .ok (.invokevirtual 146, 3) := by decide +kernel
theorem dX8_bringsOut_51 : decode cX8_bringsOut 51 = .ok (.iconst 3, 1) := by decide +kernel
theorem dX8_bringsOut_52 : decode cX8_bringsOut 52 = .ok (.aload_n 0, 1) := by decide +kernel
theorem dX8_bringsOut_53 : decode cX8_bringsOut 53 = .ok (.iconst 3, 1) := by decide +kernel
theorem dX8_bringsOut_54 : decode cX8_bringsOut 54 = .ok (.invokevirtual 158, 3) := by decide +kernel
theorem dX8_bringsOut_57 : decode cX8_bringsOut 57 = .ok (.iload_n 3, 1) := by decide +kernel
theorem dX8_bringsOut_58 : decode cX8_bringsOut 58 = .ok (.isub, 1) := by decide +kernel
theorem dX8_bringsOut_59 : decode cX8_bringsOut 59 = .ok (.invokestatic 125, 3) := by decide +kernel
theorem dX8_bringsOut_62 : decode cX8_bringsOut 62 = .ok (.imul, 1) := by decide +kernel
theorem dX8_bringsOut_63 : decode cX8_bringsOut 63 = .ok (.iadd, 1) := by decide +kernel
theorem dX8_bringsOut_64 : decode cX8_bringsOut 64 = .ok (.istore 5, 2) := by decide +kernel
theorem dX8_bringsOut_66 : decode cX8_bringsOut 66 = .ok (.iload 5, 2) := by decide +kernel
theorem dX8_bringsOut_68 : decode cX8_bringsOut 68 = .ok (.iload 4, 2) := by decide +kernel
theorem dX8_bringsOut_70 : decode cX8_bringsOut 70 = .ok (.invokestatic 143, 3) := by decide +kernel
theorem dX8_bringsOut_73 : decode cX8_bringsOut 73 = .ok (.iconst 2, 1) := by decide +kernel
theorem dX8_bringsOut_74 : decode cX8_bringsOut 74 = .ok (.iadd, 1) := by decide +kernel
theorem dX8_bringsOut_75 : decode cX8_bringsOut 75 = .ok (.istore 6, 2) := by decide +kernel
theorem dX8_bringsOut_77 : decode cX8_bringsOut 77 = .ok (.aload_n 0, 1) := by decide +kernel
theorem dX8_bringsOut_78 : decode cX8_bringsOut 78 = .ok (.iload_n 3, 1) := by decide +kernel
theorem dX8_bringsOut_79 : decode cX8_bringsOut 79 = .ok (.iload 6, 2) := by decide +kernel
theorem dX8_bringsOut_81 : decode cX8_bringsOut 81 = .ok (.iconst 0, 1) := by decide +kernel
theorem dX8_bringsOut_82 : decode cX8_bringsOut 82 = .ok (.invokevirtual 161, 3) := by decide +kernel
theorem dX8_bringsOut_85 : decode cX8_bringsOut 85 = .ok (.aload_n 0, 1) := by decide +kernel
theorem dX8_bringsOut_86 : decode cX8_bringsOut 86 = .ok (.iconst 3, 1) := by decide +kernel
theorem dX8_bringsOut_87 : decode cX8_bringsOut 87 = .ok (.iload 6, 2) := by decide +kernel
theorem dX8_bringsOut_89 : decode cX8_bringsOut 89 = .ok (.iconst 3, 1) := by decide +kernel
theorem dX8_bringsOut_90 : decode cX8_bringsOut 90 = .ok (.iload_n 3, 1) := by decide +kernel
theorem dX8_bringsOut_91 : decode cX8_bringsOut 91 = .ok (.imul, 1) := by decide +kernel
theorem dX8_bringsOut_92 : decode cX8_bringsOut 92 = .ok (.iadd, 1) := by decide +kernel
theorem dX8_bringsOut_93 : decode cX8_bringsOut 93 = .ok (.iconst 2, 1) := by decide +kernel
theorem dX8_bringsOut_94 : decode cX8_bringsOut 94 = .ok (.iadd, 1) := by decide +kernel
theorem dX8_bringsOut_95 : decode cX8_bringsOut 95 = .ok (.iconst 0, 1) := by decide +kernel
theorem dX8_bringsOut_96 : decode cX8_bringsOut 96 = .ok (.invokevirtual 161, 3) := by decide +kernel
theorem dX8_bringsOut_99 : decode cX8_bringsOut 99 = .ok (.aload_n 0, 1) := by decide +kernel
theorem dX8_bringsOut_100 : decode cX8_bringsOut 100 = .ok (.iload_n 1, 1) := by decide +kernel
theorem dX8_bringsOut_101 : decode cX8_bringsOut 101 = .ok (.iload_n 2, 1) := by decide +kernel
theorem dX8_bringsOut_102 : decode cX8_bringsOut 102 = .ok (.iconst (-1), 1) := by decide +kernel
theorem dX8_bringsOut_103 : decode cX8_bringsOut 103 = .ok (.invokevirtual 168, 3) := by decide +kernel
theorem dX8_bringsOut_106 : decode cX8_bringsOut 106 = .ok (.aload_n 0, 1) := by decide +kernel
theorem dX8_bringsOut_107 : decode cX8_bringsOut 107 = .ok (.getfield 13, 3) := by decide +kernel
theorem dX8_bringsOut_110 : decode cX8_bringsOut 110 = .ok (.iconst 2, 1) := by decide +kernel
theorem dX8_bringsOut_111 : decode cX8_bringsOut 111 = .ok (.dup2, 1) := by decide +kernel
theorem dX8_bringsOut_112 : decode cX8_bringsOut 112 = .ok (.iaload, 1) := by decide +kernel
theorem dX8_bringsOut_113 : decode cX8_bringsOut 113 = .ok (.iconst 1, 1) := by decide +kernel
theorem dX8_bringsOut_114 : decode cX8_bringsOut 114 = .ok (.iadd, 1) := by decide +kernel
theorem dX8_bringsOut_115 : decode cX8_bringsOut 115 = .ok (.iastore, 1) := by decide +kernel
theorem dX8_bringsOut_116 : decode cX8_bringsOut 116 = .ok (.return_, 1) := by decide +kernel
theorem dX8_moves_0 : decode cX8_moves 0 = .ok (.aload_n 0, 1) := by decide +kernel
theorem dX8_moves_1 : decode cX8_moves 1 = .ok (.invokevirtual 155, 3) := by decide +kernel
theorem dX8_moves_4 : decode cX8_moves 4 = .ok (.aload_n 0, 1) := by decide +kernel
theorem dX8_moves_5 : decode cX8_moves 5 = .ok (.iload_n 1, 1) := by decide +kernel
theorem dX8_moves_6 : decode cX8_moves 6 = .ok (.invokevirtual 116, 3) := by decide +kernel
theorem dX8_moves_9 : decode cX8_moves 9 = .ok (.istore_n 3, 1) := by decide +kernel
theorem dX8_moves_10 : decode cX8_moves 10 = .ok (.iload_n 3, 1) := by decide +kernel
theorem dX8_moves_11 : decode cX8_moves 11 = .ok (.invokestatic 122, 3) := by decide +kernel
theorem dX8_moves_14 : decode cX8_moves 14 = .ok (.istore 4, 2) := by decide +kernel
theorem dX8_moves_16 : decode cX8_moves 16 = .ok (.iload_n 2, 1) := by decide +kernel
theorem dX8_moves_17 : decode cX8_moves 17 = .ok (.invokestatic 122, 3) := by decide +kernel
theorem dX8_moves_20 : decode cX8_moves 20 = .ok (.istore 5, 2) := by decide +kernel
theorem dX8_moves_22 : decode cX8_moves 22 = .ok (.aload_n 0, 1) := by decide +kernel
theorem dX8_moves_23 : decode cX8_moves 23 = .ok (.iload 4, 2) := by decide +kernel
theorem dX8_moves_25 : decode cX8_moves 25 = .ok (.invokevirtual 146, 3) := by decide +kernel
theorem dX8_moves_28 : decode cX8_moves 28 = .ok (.aload_n 0, 1) := by decide +kernel
theorem dX8_moves_29 : decode cX8_moves 29 = .ok (.iload 4, 2) := by decide +kernel
theorem dX8_moves_31 : decode cX8_moves 31 = .ok (.invokevirtual 158, 3) := by decide +kernel
theorem dX8_moves_34 : decode cX8_moves 34 = .ok (.iload_n 3, 1) := by decide +kernel
theorem dX8_moves_35 : decode cX8_moves 35 = .ok (.invokestatic 97, 3) := by decide +kernel
theorem dX8_moves_38 : decode cX8_moves 38 = .ok (.isub, 1) := by decide +kernel
theorem dX8_moves_39 : decode cX8_moves 39 = .ok (.invokestatic 125, 3) := by decide +kernel
theorem dX8_moves_42 : decode cX8_moves 42 = .ok (.iadd, 1) := by decide +kernel
theorem dX8_moves_43 : decode cX8_moves 43 = .ok (.iload_n 3, 1) := by decide +kernel
theorem dX8_moves_44 : decode cX8_moves 44 = .ok (.invokestatic 165, 3) := by decide +kernel
theorem dX8_moves_47 : decode cX8_moves 47 = .ok (.iadd, 1) := by decide +kernel
theorem dX8_moves_48 : decode cX8_moves 48 = .ok (.istore 6, 2) := by decide +kernel
theorem dX8_moves_50 : decode cX8_moves 50 = .ok (.iload 4, 2) := by decide +kernel
theorem dX8_moves_52 : decode cX8_moves 52 = .ok (.iload 5, 2) := by decide +kernel
theorem dX8_moves_54 : decode cX8_moves 54 = .ok (.if_icmp .ne 36, 3) := by decide +kernel
theorem dX8_moves_57 : decode cX8_moves 57 = .ok (.aload_n 0, 1) := by decide +kernel
theorem dX8_moves_58 : decode cX8_moves 58 = .ok (.iload 4, 2) := by decide +kernel
theorem dX8_moves_60 : decode cX8_moves 60 = .ok (.iload 6, 2) := by decide +kernel
theorem dX8_moves_62 : decode cX8_moves 62 = .ok (.iload_n 3, 1) := by decide +kernel
theorem dX8_moves_63 : decode cX8_moves 63 = .ok (.invokestatic 97, 3) := by decide +kernel
theorem dX8_moves_66 : decode cX8_moves 66 = .ok (.iload_n 2, 1) := by decide +kernel
theorem dX8_moves_67 : decode cX8_moves 67 = .ok (.invokestatic 97, 3) := by decide +kernel
theorem dX8_moves_70 : decode cX8_moves 70 = .ok (.isub, 1) := by decide +kernel
theorem dX8_moves_71 : decode cX8_moves 71 = .ok (.invokestatic 125, 3) := by decide +kernel
theorem dX8_moves_74 : decode cX8_moves 74 = .ok (.iadd, 1) := by decide +kernel
theorem dX8_moves_75 : decode cX8_moves 75 = .ok (.iload_n 2, 1) := by decide +kernel
theorem dX8_moves_76 : decode cX8_moves 76 = .ok (.invokestatic 165, 3) := by decide +kernel
theorem dX8_moves_79 : decode cX8_moves 79 = .ok (.iadd, 1) := by decide +kernel
theorem dX8_moves_80 : decode cX8_moves 80 = .ok (.iload_n 2, 1) := by decide +kernel
theorem dX8_moves_81 : decode cX8_moves 81 = .ok (.invokestatic 97, 3) := by decide +kernel
theorem dX8_moves_84 : decode cX8_moves 84 = .ok (.invokevirtual 161, 3) := by decide +kernel
theorem dX8_moves_87 : decode cX8_moves 87 = .ok (.goto 109, 3) := by decide +kernel
theorem dX8_moves_90 : decode cX8_moves 90 = .ok (.iload 6, 2) := by decide +kernel
theorem dX8_moves_92 : decode cX8_moves 92 = .ok (.iload_n 3, 1) := by decide +kernel
theorem dX8_moves_93 : decode cX8_moves 93 = .ok (.invokestatic 97, 3) := by decide +kernel
theorem dX8_moves_96 : decode cX8_moves 96 = .ok (.iadd, 1) := by decide +kernel
theorem dX8_moves_97 : decode cX8_moves 97 = .ok (.aload_n 0, 1) := by decide +kernel
theorem dX8_moves_98 : decode cX8_moves 98 = .ok (.iconst 3, 1) := by decide +kernel
theorem dX8_moves_99 : decode cX8_moves 99 = .ok (.invokevirtual 146, 3) := by decide +kernel
theorem dX8_moves_102 : decode cX8_moves 102 = .ok (.iconst 3, 1) := by decide +kernel
theorem dX8_moves_103 : decode cX8_moves 103 = .ok (.aload_n 0, 1) := by decide +kernel
theorem dX8_moves_104 : decode cX8_moves 104 = .ok (.iconst 3, 1) := by decide +kernel
theorem dX8_moves_105 : decode cX8_moves 105 = .ok (.invokevirtual 158, 3) := by decide +kernel
theorem dX8_moves_108 : decode cX8_moves 108 = .ok (.iload 4, 2) := by decide +kernel
theorem dX8_moves_110 : decode cX8_moves 110 = .ok (.isub, 1) := by decide +kernel
theorem dX8_moves_111 : decode cX8_moves 111 = .ok (.invokestatic 125, 3) := by decide +kernel
theorem dX8_moves_114 : decode cX8_moves 114 = .ok (.imul, 1) := by decide +kernel
theorem dX8_moves_115 : decode cX8_moves 115 = .ok (.iadd, 1) := by decide +kernel
theorem dX8_moves_116 : decode cX8_moves 116 = .ok (.invokestatic 143, 3) := by decide +kernel
theorem dX8_moves_119 : decode cX8_moves 119 = .ok (.iconst 2, 1) := by decide +kernel
theorem dX8_moves_120 : decode cX8_moves 120 = .ok (.iadd, 1) := by decide +kernel
theorem dX8_moves_121 : decode cX8_moves 121 = .ok (.istore 7, 2) := by decide +kernel
theorem dX8_moves_123 : decode cX8_moves 123 = .ok (.iload 7, 2) := by decide +kernel
theorem dX8_moves_125 : decode cX8_moves 125 = .ok (.iconst 3, 1) := by decide +kernel
theorem dX8_moves_126 : decode cX8_moves 126 = .ok (.iload 4, 2) := by decide +kernel
theorem dX8_moves_128 : decode cX8_moves 128 = .ok (.iload 5, 2) := by decide +kernel
theorem dX8_moves_130 : decode cX8_moves 130 = .ok (.isub, 1) := by decide +kernel
theorem dX8_moves_131 : decode cX8_moves 131 = .ok (.invokestatic 125, 3) := by decide +kernel
theorem dX8_moves_134 : decode cX8_moves 134 = .ok (.imul, 1) := by decide +kernel
theorem dX8_moves_135 : decode cX8_moves 135 = .ok (.iadd, 1) := by decide +kernel
theorem dX8_moves_136 : decode cX8_moves 136 = .ok (.aload_n 0, 1) := by decide +kernel
theorem dX8_moves_137 : decode cX8_moves 137 = .ok (.iload 5, 2) := by decide +kernel
theorem dX8_moves_139 : decode cX8_moves 139 = .ok (.invokevirtual 146, 3) := by decide +kernel
theorem dX8_moves_142 : decode cX8_moves 142 = .ok (.aload_n 0, 1) := by decide +kernel
theorem dX8_moves_143 : decode cX8_moves 143 = .ok (.iload 5, 2) := by decide +kernel
theorem dX8_moves_145 : decode cX8_moves 145 = .ok (.invokevirtual 158, 3) := by decide +kernel
theorem dX8_moves_148 : decode cX8_moves 148 = .ok (.iadd, 1) := by decide +kernel
theorem dX8_moves_149 : decode cX8_moves 149 = .ok (.invokestatic 143, 3) := by decide +kernel
theorem dX8_moves_152 : decode cX8_moves 152 = .ok (.iconst 2, 1) := by decide +kernel
theorem dX8_moves_153 : decode cX8_moves 153 = .ok (.iadd, 1) := by decide +kernel
theorem dX8_moves_154 : decode cX8_moves 154 = .ok (.istore 8, 2) := by decide +kernel
theorem dX8_moves_156 : decode cX8_moves 156 = .ok (.aload_n 0, 1) := by decide +kernel
theorem dX8_moves_157 : decode cX8_moves 157 = .ok (.iload 4, 2) := by decide +kernel
theorem dX8_moves_159 : decode cX8_moves 159 = .ok (.iload 7, 2) := by decide +kernel
theorem dX8_moves_161 : decode cX8_moves 161 = .ok (.iconst 0, 1) := by decide +kernel
theorem dX8_moves_162 : decode cX8_moves 162 = .ok (.invokevirtual 161, 3) := by decide +kernel
theorem dX8_moves_165 : decode cX8_moves 165 = .ok (.aload_n 0, 1) := by decide +kernel
theorem dX8_moves_166 : decode cX8_moves 166 = .ok (.iconst 3, 1) := by decide +kernel
theorem dX8_moves_167 : decode cX8_moves 167 = .ok (.iload 8, 2) := by decide +kernel
theorem dX8_moves_169 : decode cX8_moves 169 = .ok (.iload 5, 2) := by decide +kernel
theorem dX8_moves_171 : decode cX8_moves 171 = .ok (.invokevirtual 161, 3) := by decide +kernel
theorem dX8_moves_174 : decode cX8_moves 174 = .ok (.aload_n 0, 1) := by decide +kernel
theorem dX8_moves_175 : decode cX8_moves 175 = .ok (.iload 5, 2) := by decide +kernel
theorem dX8_moves_177 : decode cX8_moves 177 = .ok (.iload 8, 2) := by decide +kernel
theorem dX8_moves_179 : decode cX8_moves 179 = .ok (.iload_n 2, 1) := by decide +kernel
theorem dX8_moves_180 : decode cX8_moves 180 = .ok (.invokestatic 97, 3) := by decide +kernel
theorem dX8_moves_183 : decode cX8_moves 183 = .ok (.iadd, 1) := by decide +kernel
theorem dX8_moves_184 : decode cX8_moves 184 = .ok (.iload_n 2, 1) := by decide +kernel
theorem dX8_moves_185 : decode cX8_moves 185 = .ok (.invokestatic 165, 3) := by decide +kernel
theorem dX8_moves_188 : decode cX8_moves 188 = .ok (.iadd, 1) := by decide +kernel
theorem dX8_moves_189 : decode cX8_moves 189 = .ok (.iload_n 2, 1) := by decide +kernel
theorem dX8_moves_190 : decode cX8_moves 190 = .ok (.invokestatic 97, 3) := by decide +kernel
theorem dX8_moves_193 : decode cX8_moves 193 = .ok (.invokevirtual 161, 3) := by decide +kernel
theorem dX8_moves_196 : decode cX8_moves 196 = .ok (.aload_n 0, 1) := by decide +kernel
theorem dX8_moves_197 : decode cX8_moves 197 = .ok (.iload_n 1, 1) := by decide +kernel
theorem dX8_moves_198 : decode cX8_moves 198 = .ok (.iload_n 3, 1) := by decide +kernel
theorem dX8_moves_199 : decode cX8_moves 199 = .ok (.iload_n 2, 1) := by decide +kernel
theorem dX8_moves_200 : decode cX8_moves 200 = .ok (.invokevirtual 168, 3) := by decide +kernel
theorem dX8_moves_203 : decode cX8_moves 203 = .ok (.aload_n 0, 1) := by decide +kernel
theorem dX8_moves_204 : decode cX8_moves 204 = .ok (.getfield 13, 3) := by decide +kernel
theorem dX8_moves_207 : decode cX8_moves 207 = .ok (.iconst 3, 1) := by decide +kernel
theorem dX8_moves_208 : decode cX8_moves 208 = .ok (.dup2, 1) := by decide +kernel
theorem dX8_moves_209 : decode cX8_moves 209 = .ok (.iaload, 1) := by decide +kernel
theorem dX8_moves_210 : decode cX8_moves 210 = .ok (.iconst 1, 1) := by decide +kernel
theorem dX8_moves_211 : decode cX8_moves 211 = .ok (.iadd, 1) := by decide +kernel
theorem dX8_moves_212 : decode cX8_moves 212 = .ok (.iastore, 1) := by decide +kernel
theorem dX8_moves_213 : decode cX8_moves 213 = .ok (.return_, 1) := by decide +kernel
theorem dX8_isSize_0 : decode cX8_isSize 0 = .ok (.iload_n 0, 1) := by decide +kernel
theorem dX8_isSize_1 : decode cX8_isSize 1 = .ok (.iconst 0, 1) := by decide +kernel
theorem dX8_isSize_2 : decode cX8_isSize 2 = .ok (.iconst 1, 1) := by decide +kernel
theorem dX8_isSize_3 : decode cX8_isSize 3 = .ok (.invokestatic 112, 3) := by decide +kernel
theorem dX8_isSize_6 : decode cX8_isSize 6 = .ok (.ireturn, 1) := by decide +kernel
theorem dX8_isPickup_0 : decode cX8_isPickup 0 = .ok (.iload_n 0, 1) := by decide +kernel
theorem dX8_isPickup_1 : decode cX8_isPickup 1 = .ok (.iconst 0, 1) := by decide +kernel
theorem dX8_isPickup_2 : decode cX8_isPickup 2 = .ok (.sipush 9999, 3) := by decide +kernel
theorem dX8_isPickup_5 : decode cX8_isPickup 5 = .ok (.invokestatic 112, 3) := by decide +kernel
theorem dX8_isPickup_8 : decode cX8_isPickup 8 = .ok (.ireturn, 1) := by decide +kernel
theorem dX8_stores_0 : decode cX8_stores 0 = .ok (.iload_n 1, 1) := by decide +kernel
theorem dX8_stores_1 : decode cX8_stores 1 = .ok (.invokestatic 171, 3) := by decide +kernel
theorem dX8_stores_4 : decode cX8_stores 4 = .ok (.ifCond .eq 10, 3) := by decide +kernel
theorem dX8_stores_7 : decode cX8_stores 7 = .ok (.iload_n 2, 1) := by decide +kernel
theorem dX8_stores_8 : decode cX8_stores 8 = .ok (.invokestatic 174, 3) := by decide +kernel
theorem dX8_stores_11 : decode cX8_stores 11 = .ok (.ifCond .ne 9, 3) := by decide +kernel
theorem dX8_stores_14 : decode cX8_stores 14 = .ok (.aload_n 0, 1) := by decide +kernel
theorem dX8_stores_15 : decode cX8_stores 15 = .ok (.iconst 1, 1) := by decide +kernel
theorem dX8_stores_16 : decode cX8_stores 16 = .ok (.invokevirtual 177, 3) := by decide +kernel
theorem dX8_stores_19 : decode cX8_stores 19 = .ok (.ireturn, 1) := by decide +kernel
theorem dX8_stores_20 : decode cX8_stores 20 = .ok (.aload_n 0, 1) := by decide +kernel
theorem dX8_stores_21 : decode cX8_stores 21 = .ok (.getfield 13, 3) := by decide +kernel
theorem dX8_stores_24 : decode cX8_stores 24 = .ok (.iconst 1, 1) := by decide +kernel
theorem dX8_stores_25 : decode cX8_stores 25 = .ok (.iaload, 1) := by decide +kernel
theorem dX8_stores_26 : decode cX8_stores 26 = .ok (.istore_n 3, 1) := by decide +kernel
theorem dX8_stores_27 : decode cX8_stores 27 = .ok (.iload_n 3, 1) := by decide +kernel
theorem dX8_stores_28 : decode cX8_stores 28 = .ok (.bipush 40, 2) := by decide +kernel
theorem dX8_stores_30 : decode cX8_stores 30 = .ok (.if_icmp .ne 9, 3) := by decide +kernel
theorem dX8_stores_33 : decode cX8_stores 33 = .ok (.aload_n 0, 1) := by decide +kernel
theorem dX8_stores_34 : decode cX8_stores 34 = .ok (.iconst 2, 1) := by decide +kernel
theorem dX8_stores_35 : decode cX8_stores 35 = .ok (.invokevirtual 177, 3) := by decide +kernel
theorem dX8_stores_38 : decode cX8_stores 38 = .ok (.ireturn, 1) := by decide +kernel
theorem dX8_stores_39 : decode cX8_stores 39 = .ok (.aload_n 0, 1) := by decide +kernel
theorem dX8_stores_40 : decode cX8_stores 40 = .ok (.iload_n 1, 1) := by decide +kernel
theorem dX8_stores_41 : decode cX8_stores 41 = .ok (.iload_n 2, 1) := by decide +kernel
theorem dX8_stores_42 : decode cX8_stores 42 = .ok (.iconst (-1), 1) := by decide +kernel
theorem dX8_stores_43 : decode cX8_stores 43 = .ok (.invokevirtual 180, 3) := by decide +kernel
theorem dX8_stores_46 : decode cX8_stores 46 = .ok (.istore 4, 2) := by decide +kernel
theorem dX8_stores_48 : decode cX8_stores 48 = .ok (.iload 4, 2) := by decide +kernel
theorem dX8_stores_50 : decode cX8_stores 50 = .ok (.ifCond .ge 9, 3) := by decide +kernel
theorem dX8_stores_53 : decode cX8_stores 53 = .ok (.aload_n 0, 1) := by decide +kernel
theorem dX8_stores_54 : decode cX8_stores 54 = .ok (.iconst 3, 1) := by decide +kernel
theorem dX8_stores_55 : decode cX8_stores 55 = .ok (.invokevirtual 177, 3) := by decide +kernel
theorem dX8_stores_58 : decode cX8_stores 58 = .ok (.ireturn, 1) := by decide +kernel
theorem dX8_stores_59 : decode cX8_stores 59 = .ok (.aload_n 0, 1) := by decide +kernel
theorem dX8_stores_60 : decode cX8_stores 60 = .ok (.getfield 13, 3) := by decide +kernel
theorem dX8_stores_63 : decode cX8_stores 63 = .ok (.sipush 139, 3) := by decide +kernel
theorem dX8_stores_66 : decode cX8_stores 66 = .ok (.iconst 4, 1) := by decide +kernel
theorem dX8_stores_67 : decode cX8_stores 67 = .ok (.iload_n 3, 1) := by decide +kernel
theorem dX8_stores_68 : decode cX8_stores 68 = .ok (.imul, 1) := by decide +kernel
theorem dX8_stores_69 : decode cX8_stores 69 = .ok (.iadd, 1) := by decide +kernel
theorem dX8_stores_70 : decode cX8_stores 70 = .ok (.iload_n 1, 1) := by decide +kernel
theorem dX8_stores_71 : decode cX8_stores 71 = .ok (.iastore, 1) := by decide +kernel
theorem dX8_stores_72 : decode cX8_stores 72 = .ok (.aload_n 0, 1) := by decide +kernel
theorem dX8_stores_73 : decode cX8_stores 73 = .ok (.getfield 13, 3) := by decide +kernel
theorem dX8_stores_76 : decode cX8_stores 76 = .ok (.sipush 139, 3) := by decide +kernel
theorem dX8_stores_79 : decode cX8_stores 79 = .ok (.iconst 4, 1) := by decide +kernel
theorem dX8_stores_80 : decode cX8_stores 80 = .ok (.iload_n 3, 1) := by decide +kernel
theorem dX8_stores_81 : decode cX8_stores 81 = .ok (.imul, 1) := by decide +kernel
theorem dX8_stores_82 : decode cX8_stores 82 = .ok (.iadd, 1) := by decide +kernel
theorem dX8_stores_83 : decode cX8_stores 83 = .ok (.iconst 1, 1) := by decide +kernel
theorem dX8_stores_84 : decode cX8_stores 84 = .ok (.iadd, 1) := by decide +kernel
theorem dX8_stores_85 : decode cX8_stores 85 = .ok (.iload_n 2, 1) := by decide +kernel
theorem dX8_stores_86 : decode cX8_stores 86 = .ok (.iastore, 1) := by decide +kernel
theorem dX8_stores_87 : decode cX8_stores 87 = .ok (.aload_n 0, 1) := by decide +kernel
theorem dX8_stores_88 : decode cX8_stores 88 = .ok (.getfield 13, 3) := by decide +kernel
theorem dX8_stores_91 : decode cX8_stores 91 = .ok (.sipush 139, 3) := by decide +kernel
theorem dX8_stores_94 : decode cX8_stores 94 = .ok (.iconst 4, 1) := by decide +kernel
theorem dX8_stores_95 : decode cX8_stores 95 = .ok (.iload_n 3, 1) := by decide +kernel
theorem dX8_stores_96 : decode cX8_stores 96 = .ok (.imul, 1) := by decide +kernel
theorem dX8_stores_97 : decode cX8_stores 97 = .ok (.iadd, 1) := by decide +kernel
theorem dX8_stores_98 : decode cX8_stores 98 = .ok (.iconst 3, 1) := by decide +kernel
theorem dX8_stores_99 : decode cX8_stores 99 = .ok (.iadd, 1) := by decide +kernel
theorem dX8_stores_100 : decode cX8_stores 100 = .ok (.iconst 0, 1) := by decide +kernel
theorem dX8_stores_101 : decode cX8_stores 101 = .ok (.iastore, 1) := by decide +kernel
theorem dX8_stores_102 : decode cX8_stores 102 = .ok (.aload_n 0, 1) := by decide +kernel
theorem dX8_stores_103 : decode cX8_stores 103 = .ok (.getfield 13, 3) := by decide +kernel
theorem dX8_stores_106 : decode cX8_stores 106 = .ok (.iconst 1, 1) := by decide +kernel
theorem dX8_stores_107 : decode cX8_stores 107 = .ok (.dup2, 1) := by decide +kernel
theorem dX8_stores_108 : decode cX8_stores 108 = .ok (.iaload, 1) := by decide +kernel
theorem dX8_stores_109 : decode cX8_stores 109 = .ok (.iconst 1, 1) := by decide +kernel
theorem dX8_stores_110 : decode cX8_stores 110 = .ok (.iadd, 1) := by decide +kernel
theorem dX8_stores_111 : decode cX8_stores 111 = .ok (.iastore, 1) := by decide +kernel
theorem dX8_stores_112 : decode cX8_stores 112 = .ok (.aload_n 0, 1) := by decide +kernel
theorem dX8_stores_113 : decode cX8_stores 113 = .ok (.iload_n 3, 1) := by decide +kernel
theorem dX8_stores_114 : decode cX8_stores 114 = .ok (.iload 4, 2) := by decide +kernel
theorem dX8_stores_116 : decode cX8_stores 116 = .ok (.invokevirtual 184, 3) := by decide +kernel
theorem dX8_stores_119 : decode cX8_stores 119 = .ok (.iload 4, 2) := by decide +kernel
theorem dX8_stores_121 : decode cX8_stores 121 = .ok (.ireturn, 1) := by decide +kernel
theorem dX8_store_0 : decode cX8_store 0 = .ok (.aload_n 0, 1) := by decide +kernel
theorem dX8_store_1 : decode cX8_store 1 = .ok (.invokevirtual 188, 3) := by decide +kernel
theorem dX8_store_4 : decode cX8_store 4 = .ok (.aload_n 0, 1) := by decide +kernel
theorem dX8_store_5 : decode cX8_store 5 = .ok (.aload_n 0, 1) := by decide +kernel
theorem dX8_store_6 : decode cX8_store 6 = .ok (.iload_n 1, 1) := by decide +kernel
theorem dX8_store_7 : decode cX8_store 7 = .ok (.iload_n 2, 1) := by decide +kernel
theorem dX8_store_8 : decode cX8_store 8 = .ok (.invokevirtual 191, 3) := by decide +kernel
theorem dX8_store_11 : decode cX8_store 11 = .ok (.invokevirtual 194, 3) := by decide +kernel
theorem dX8_store_14 : decode cX8_store 14 = .ok (.ireturn, 1) := by decide +kernel
theorem dX8_open_0 : decode cX8_open 0 = .ok (.iconst 0, 1) := by decide +kernel
theorem dX8_open_1 : decode cX8_open 1 = .ok (.istore_n 1, 1) := by decide +kernel
theorem dX8_open_2 : decode cX8_open 2 = .ok (.iconst 0, 1) := by decide +kernel
theorem dX8_open_3 : decode cX8_open 3 = .ok (.istore_n 2, 1) := by decide +kernel
theorem dX8_open_4 : decode cX8_open 4 = .ok (.iload_n 2, 1) := by decide +kernel
theorem dX8_open_5 : decode cX8_open 5 = .ok (.bipush 60, 2) := by decide +kernel
theorem dX8_open_7 : decode cX8_open 7 = .ok (.if_icmp .ge 37, 3) := by decide +kernel
theorem dX8_open_10 : decode cX8_open 10 = .ok (.iload_n 1, 1) := by decide +kernel
theorem dX8_open_11 : decode cX8_open 11 = .ok (.aload_n 0, 1) := by decide +kernel
theorem dX8_open_12 : decode cX8_open 12 = .ok (.getfield 13, 3) := by decide +kernel
theorem dX8_open_15 : decode cX8_open 15 = .ok (.bipush 19, 2) := by decide +kernel
theorem dX8_open_17 : decode cX8_open 17 = .ok (.iload_n 2, 1) := by decide +kernel
theorem dX8_open_18 : decode cX8_open 18 = .ok (.iadd, 1) := by decide +kernel
theorem dX8_open_19 : decode cX8_open 19 = .ok (.iaload, 1) := by decide +kernel
theorem dX8_open_20 : decode cX8_open 20 = .ok (.ifCond .ne 15, 3) := by decide +kernel
theorem dX8_open_23 : decode cX8_open 23 = .ok (.aload_n 0, 1) := by decide +kernel
theorem dX8_open_24 : decode cX8_open 24 = .ok (.iload_n 2, 1) := by decide +kernel
theorem dX8_open_25 : decode cX8_open 25 = .ok (.invokevirtual 104, 3) := by decide +kernel
theorem dX8_open_28 : decode cX8_open 28 = .ok (.ifCond .eq 7, 3) := by decide +kernel
theorem dX8_open_31 : decode cX8_open 31 = .ok (.iconst 1, 1) := by decide +kernel
theorem dX8_open_32 : decode cX8_open 32 = .ok (.goto 4, 3) := by decide +kernel
theorem dX8_open_35 : decode cX8_open 35 = .ok (.iconst 0, 1) := by decide +kernel
theorem dX8_open_36 : decode cX8_open 36 = .ok (.iadd, 1) := by decide +kernel
theorem dX8_open_37 : decode cX8_open 37 = .ok (.istore_n 1, 1) := by decide +kernel
theorem dX8_open_38 : decode cX8_open 38 = .ok (.iinc 2 1, 3) := by decide +kernel
theorem dX8_open_41 : decode cX8_open 41 = .ok (.goto (-37), 3) := by decide +kernel
theorem dX8_open_44 : decode cX8_open 44 = .ok (.iload_n 1, 1) := by decide +kernel
theorem dX8_open_45 : decode cX8_open 45 = .ok (.ireturn, 1) := by decide +kernel
theorem dX8_takesOut_0 : decode cX8_takesOut 0 = .ok (.aload_n 0, 1) := by decide +kernel
theorem dX8_takesOut_1 : decode cX8_takesOut 1 = .ok (.iload_n 1, 1) := by decide +kernel
theorem dX8_takesOut_2 : decode cX8_takesOut 2 = .ok (.invokevirtual 197, 3) := by decide +kernel
theorem dX8_takesOut_5 : decode cX8_takesOut 5 = .ok (.istore_n 2, 1) := by decide +kernel
theorem dX8_takesOut_6 : decode cX8_takesOut 6 = .ok (.iload_n 2, 1) := by decide +kernel
theorem dX8_takesOut_7 : decode cX8_takesOut 7 = .ok (.ifCond .lt 36, 3) := by decide +kernel
theorem dX8_takesOut_10 : decode cX8_takesOut 10 = .ok (.aload_n 0, 1) := by decide +kernel
theorem dX8_takesOut_11 : decode cX8_takesOut 11 = .ok (.aload_n 0, 1) := by decide +kernel
theorem dX8_takesOut_12 : decode cX8_takesOut 12 = .ok (.iload_n 2, 1) := by decide +kernel
theorem dX8_takesOut_13 : decode cX8_takesOut 13 = .ok (.iconst 0, 1) := by decide +kernel
theorem dX8_takesOut_14 : decode cX8_takesOut 14 = .ok (.invokevirtual 108, 3) := by decide +kernel
theorem dX8_takesOut_17 : decode cX8_takesOut 17 = .ok (.aload_n 0, 1) := by decide +kernel
theorem dX8_takesOut_18 : decode cX8_takesOut 18 = .ok (.iload_n 2, 1) := by decide +kernel
theorem dX8_takesOut_19 : decode cX8_takesOut 19 = .ok (.invokevirtual 119, 3) := by decide +kernel
theorem dX8_takesOut_22 : decode cX8_takesOut 22 = .ok (.aload_n 0, 1) := by decide +kernel
theorem dX8_takesOut_23 : decode cX8_takesOut 23 = .ok (.iload_n 2, 1) := by decide +kernel
theorem dX8_takesOut_24 : decode cX8_takesOut 24 = .ok (.invokevirtual 116, 3) := by decide +kernel
theorem dX8_takesOut_27 : decode cX8_takesOut 27 = .ok (.invokevirtual 180, 3) := by decide +kernel
theorem dX8_takesOut_30 : decode cX8_takesOut 30 = .ok (.istore_n 3, 1) := by decide +kernel
theorem dX8_takesOut_31 : decode cX8_takesOut 31 = .ok (.iload_n 3, 1) := by decide +kernel
theorem dX8_takesOut_32 : decode cX8_takesOut 32 = .ok (.ifCond .ge 5, 3) := by decide +kernel
theorem dX8_takesOut_35 : decode cX8_takesOut 35 = .ok (.iconst (-1), 1) := by decide +kernel
theorem dX8_takesOut_36 : decode cX8_takesOut 36 = .ok (.ireturn, 1) := by decide +kernel
theorem dX8_takesOut_37 : decode cX8_takesOut 37 = .ok (.aload_n 0, 1) := by decide +kernel
theorem dX8_takesOut_38 : decode cX8_takesOut 38 = .ok (.iload_n 2, 1) := by decide +kernel
theorem dX8_takesOut_39 : decode cX8_takesOut 39 = .ok (.iload_n 3, 1) := by decide +kernel
theorem dX8_takesOut_40 : decode cX8_takesOut 40 = .ok (.invokevirtual 200, 3) := by decide +kernel
theorem dX8_takesOut_43 : decode cX8_takesOut 43 = .ok (.aload_n 0, 1) := by decide +kernel
theorem dX8_takesOut_44 : decode cX8_takesOut 44 = .ok (.iload_n 1, 1) := by decide +kernel
theorem dX8_takesOut_45 : decode cX8_takesOut 45 = .ok (.invokevirtual 203, 3) := by decide +kernel
theorem dX8_takesOut_48 : decode cX8_takesOut 48 = .ok (.iload_n 2, 1) := by decide +kernel
theorem dX8_takesOut_49 : decode cX8_takesOut 49 = .ok (.ifCond .lt 7, 3) := by decide +kernel
theorem dX8_takesOut_52 : decode cX8_takesOut 52 = .ok (.iconst 2, 1) := by decide +kernel
theorem dX8_takesOut_53 : decode cX8_takesOut 53 = .ok (.goto 4, 3) := by decide +kernel
theorem dX8_takesOut_56 : decode cX8_takesOut 56 = .ok (.iconst 1, 1) := by decide +kernel
theorem dX8_takesOut_57 : decode cX8_takesOut 57 = .ok (.ireturn, 1) := by decide +kernel
theorem dX8_retrieves_0 : decode cX8_retrieves 0 = .ok (.aload_n 0, 1) := by decide +kernel
theorem dX8_retrieves_1 : decode cX8_retrieves 1 = .ok (.iload_n 1, 1) := by decide +kernel
theorem dX8_retrieves_2 : decode cX8_retrieves 2 = .ok (.invokevirtual 207, 3) := by decide +kernel
theorem dX8_retrieves_5 : decode cX8_retrieves 5 = .ok (.ifCond .ne 9, 3) := by decide +kernel
theorem dX8_retrieves_8 : decode cX8_retrieves 8 = .ok (.aload_n 0, 1) := by decide +kernel
theorem dX8_retrieves_9 : decode cX8_retrieves 9 = .ok (.iconst 1, 1) := by decide +kernel
theorem dX8_retrieves_10 : decode cX8_retrieves 10 = .ok (.invokevirtual 177, 3) := by decide +kernel
theorem dX8_retrieves_13 : decode cX8_retrieves 13 = .ok (.ireturn, 1) := by decide +kernel
theorem dX8_retrieves_14 : decode cX8_retrieves 14 = .ok (.aload_n 0, 1) := by decide +kernel
theorem dX8_retrieves_15 : decode cX8_retrieves 15 = .ok (.iload_n 1, 1) := by decide +kernel
theorem dX8_retrieves_16 : decode cX8_retrieves 16 = .ok (.invokevirtual 197, 3) := by decide +kernel
theorem dX8_retrieves_19 : decode cX8_retrieves 19 = .ok (.istore_n 2, 1) := by decide +kernel
theorem dX8_retrieves_20 : decode cX8_retrieves 20 = .ok (.aload_n 0, 1) := by decide +kernel
theorem dX8_retrieves_21 : decode cX8_retrieves 21 = .ok (.iload_n 1, 1) := by decide +kernel
theorem dX8_retrieves_22 : decode cX8_retrieves 22 = .ok (.invokevirtual 210, 3) := by decide +kernel
theorem dX8_retrieves_25 : decode cX8_retrieves 25 = .ok (.istore_n 3, 1) := by decide +kernel
theorem dX8_retrieves_26 : decode cX8_retrieves 26 = .ok (.iload_n 3, 1) := by decide +kernel
theorem dX8_retrieves_27 : decode cX8_retrieves 27 = .ok (.ifCond .le 5, 3) := by decide +kernel
theorem dX8_retrieves_30 : decode cX8_retrieves 30 = .ok (.iload_n 3, 1) := by decide +kernel
theorem dX8_retrieves_31 : decode cX8_retrieves 31 = .ok (.ireturn, 1) := by decide +kernel
theorem dX8_retrieves_32 : decode cX8_retrieves 32 = .ok (.aload_n 0, 1) := by decide +kernel
theorem dX8_retrieves_33 : decode cX8_retrieves 33 = .ok (.iload_n 1, 1) := by decide +kernel
theorem dX8_retrieves_34 : decode cX8_retrieves 34 = .ok (.putfield 42, 3) := by decide +kernel
theorem dX8_retrieves_37 : decode cX8_retrieves 37 = .ok (.aload_n 0, 1) := by decide +kernel
theorem dX8_retrieves_38 : decode cX8_retrieves 38 = .ok (.iload_n 2, 1) := by decide +kernel
theorem dX8_retrieves_39 : decode cX8_retrieves 39 = .ok (.putfield 45, 3) := by decide +kernel
theorem dX8_retrieves_42 : decode cX8_retrieves 42 = .ok (.aload_n 0, 1) := by decide +kernel
theorem dX8_retrieves_43 : decode cX8_retrieves 43 = .ok (.aload_n 0, 1) := by decide +kernel
theorem dX8_retrieves_44 : decode cX8_retrieves 44 = .ok (.invokevirtual 213, 3) := by decide +kernel
theorem dX8_retrieves_47 : decode cX8_retrieves 47 = .ok (.putfield 48, 3) := by decide +kernel
theorem dX8_retrieves_50 : decode cX8_retrieves 50 = .ok (.aload_n 0, 1) := by decide +kernel
theorem dX8_retrieves_51 : decode cX8_retrieves 51 = .ok (.iconst 2, 1) := by decide +kernel
theorem dX8_retrieves_52 : decode cX8_retrieves 52 = .ok (.invokevirtual 177, 3) := by decide +kernel
theorem dX8_retrieves_55 : decode cX8_retrieves 55 = .ok (.ireturn, 1) := by decide +kernel
theorem dX8_retrieve_0 : decode cX8_retrieve 0 = .ok (.aload_n 0, 1) := by decide +kernel
theorem dX8_retrieve_1 : decode cX8_retrieve 1 = .ok (.invokevirtual 188, 3) := by decide +kernel
theorem dX8_retrieve_4 : decode cX8_retrieve 4 = .ok (.aload_n 0, 1) := by decide +kernel
theorem dX8_retrieve_5 : decode cX8_retrieve 5 = .ok (.aload_n 0, 1) := by decide +kernel
theorem dX8_retrieve_6 : decode cX8_retrieve 6 = .ok (.iload_n 1, 1) := by decide +kernel
theorem dX8_retrieve_7 : decode cX8_retrieve 7 = .ok (.invokevirtual 217, 3) := by decide +kernel
theorem dX8_retrieve_10 : decode cX8_retrieve 10 = .ok (.invokevirtual 194, 3) := by decide +kernel
theorem dX8_retrieve_13 : decode cX8_retrieve 13 = .ok (.ireturn, 1) := by decide +kernel
theorem dX8_book_0 : decode cX8_book 0 = .ok (.aload_n 0, 1) := by decide +kernel
theorem dX8_book_1 : decode cX8_book 1 = .ok (.invokevirtual 188, 3) := by decide +kernel
theorem dX8_book_4 : decode cX8_book 4 = .ok (.aload_n 0, 1) := by decide +kernel
theorem dX8_book_5 : decode cX8_book 5 = .ok (.iload_n 1, 1) := by decide +kernel
theorem dX8_book_6 : decode cX8_book 6 = .ok (.invokevirtual 207, 3) := by decide +kernel
theorem dX8_book_9 : decode cX8_book 9 = .ok (.ifCond .ne 9, 3) := by decide +kernel
theorem dX8_book_12 : decode cX8_book 12 = .ok (.aload_n 0, 1) := by decide +kernel
theorem dX8_book_13 : decode cX8_book 13 = .ok (.iconst 1, 1) := by decide +kernel
theorem dX8_book_14 : decode cX8_book 14 = .ok (.invokevirtual 177, 3) := by decide +kernel
theorem dX8_book_17 : decode cX8_book 17 = .ok (.ireturn, 1) := by decide +kernel
theorem dX8_book_18 : decode cX8_book 18 = .ok (.iload_n 2, 1) := by decide +kernel
theorem dX8_book_19 : decode cX8_book 19 = .ok (.invokestatic 174, 3) := by decide +kernel
theorem dX8_book_22 : decode cX8_book 22 = .ok (.ifCond .ne 9, 3) := by decide +kernel
theorem dX8_book_25 : decode cX8_book 25 = .ok (.aload_n 0, 1) := by decide +kernel
theorem dX8_book_26 : decode cX8_book 26 = .ok (.iconst 2, 1) := by decide +kernel
theorem dX8_book_27 : decode cX8_book 27 = .ok (.invokevirtual 177, 3) := by decide +kernel
theorem dX8_book_30 : decode cX8_book 30 = .ok (.ireturn, 1) := by decide +kernel
theorem dX8_book_31 : decode cX8_book 31 = .ok (.aload_n 0, 1) := by decide +kernel
theorem dX8_book_32 : decode cX8_book 32 = .ok (.iload_n 1, 1) := by decide +kernel
theorem dX8_book_33 : decode cX8_book 33 = .ok (.invokevirtual 119, 3) := by decide +kernel
theorem dX8_book_36 : decode cX8_book 36 = .ok (.istore_n 3, 1) := by decide +kernel
theorem dX8_book_37 : decode cX8_book 37 = .ok (.aload_n 0, 1) := by decide +kernel
theorem dX8_book_38 : decode cX8_book 38 = .ok (.getfield 13, 3) := by decide +kernel
theorem dX8_book_41 : decode cX8_book 41 = .ok (.sipush 139, 3) := by decide +kernel
theorem dX8_book_44 : decode cX8_book 44 = .ok (.iconst 4, 1) := by decide +kernel
theorem dX8_book_45 : decode cX8_book 45 = .ok (.iload_n 1, 1) := by decide +kernel
theorem dX8_book_46 : decode cX8_book 46 = .ok (.imul, 1) := by decide +kernel
theorem dX8_book_47 : decode cX8_book 47 = .ok (.iadd, 1) := by decide +kernel
theorem dX8_book_48 : decode cX8_book 48 = .ok (.iconst 1, 1) := by decide +kernel
theorem dX8_book_49 : decode cX8_book 49 = .ok (.iadd, 1) := by decide +kernel
theorem dX8_book_50 : decode cX8_book 50 = .ok (.iload_n 2, 1) := by decide +kernel
theorem dX8_book_51 : decode cX8_book 51 = .ok (.iastore, 1) := by decide +kernel
theorem dX8_book_52 : decode cX8_book 52 = .ok (.aload_n 0, 1) := by decide +kernel
theorem dX8_book_53 : decode cX8_book 53 = .ok (.iload_n 3, 1) := by decide +kernel
theorem dX8_book_54 : decode cX8_book 54 = .ok (.invokevirtual 194, 3) := by decide +kernel
theorem dX8_book_57 : decode cX8_book 57 = .ok (.ireturn, 1) := by decide +kernel
theorem dX8_jobsOf_0 : decode cX8_jobsOf 0 = .ok (.aload_n 0, 1) := by decide +kernel
theorem dX8_jobsOf_1 : decode cX8_jobsOf 1 = .ok (.iload_n 1, 1) := by decide +kernel
theorem dX8_jobsOf_2 : decode cX8_jobsOf 2 = .ok (.iconst 3, 1) := by decide +kernel
theorem dX8_jobsOf_3 : decode cX8_jobsOf 3 = .ok (.invokevirtual 108, 3) := by decide +kernel
theorem dX8_jobsOf_6 : decode cX8_jobsOf 6 = .ok (.ireturn, 1) := by decide +kernel
theorem dX8_car_0 : decode cX8_car 0 = .ok (.aload_n 0, 1) := by decide +kernel
theorem dX8_car_1 : decode cX8_car 1 = .ok (.iconst 0, 1) := by decide +kernel
theorem dX8_car_2 : decode cX8_car 2 = .ok (.putfield 3, 3) := by decide +kernel
theorem dX8_car_5 : decode cX8_car 5 = .ok (.aload_n 0, 1) := by decide +kernel
theorem dX8_car_6 : decode cX8_car 6 = .ok (.iload_n 1, 1) := by decide +kernel
theorem dX8_car_7 : decode cX8_car 7 = .ok (.invokevirtual 207, 3) := by decide +kernel
theorem dX8_car_10 : decode cX8_car 10 = .ok (.ifCond .ne 9, 3) := by decide +kernel
theorem dX8_car_13 : decode cX8_car 13 = .ok (.aload_n 0, 1) := by decide +kernel
theorem dX8_car_14 : decode cX8_car 14 = .ok (.iconst 1, 1) := by decide +kernel
theorem dX8_car_15 : decode cX8_car 15 = .ok (.invokevirtual 177, 3) := by decide +kernel
theorem dX8_car_18 : decode cX8_car 18 = .ok (.ireturn, 1) := by decide +kernel
theorem dX8_car_19 : decode cX8_car 19 = .ok (.iload_n 2, 1) := by decide +kernel
theorem dX8_car_20 : decode cX8_car 20 = .ok (.iconst 0, 1) := by decide +kernel
theorem dX8_car_21 : decode cX8_car 21 = .ok (.iconst 4, 1) := by decide +kernel
theorem dX8_car_22 : decode cX8_car 22 = .ok (.invokestatic 112, 3) := by decide +kernel
theorem dX8_car_25 : decode cX8_car 25 = .ok (.ifCond .ne 9, 3) := by decide +kernel
theorem dX8_car_28 : decode cX8_car 28 = .ok (.aload_n 0, 1) := by decide +kernel
theorem dX8_car_29 : decode cX8_car 29 = .ok (.iconst 2, 1) := by decide +kernel
theorem dX8_car_30 : decode cX8_car 30 = .ok (.invokevirtual 177, 3) := by decide +kernel
theorem dX8_car_33 : decode cX8_car 33 = .ok (.ireturn, 1) := by decide +kernel
theorem dX8_car_34 : decode cX8_car 34 = .ok (.iload_n 2, 1) := by decide +kernel
theorem dX8_car_35 : decode cX8_car 35 = .ok (.iconst 3, 1) := by decide +kernel
theorem dX8_car_36 : decode cX8_car 36 = .ok (.if_icmp .ne 11, 3) := by decide +kernel
theorem dX8_car_39 : decode cX8_car 39 = .ok (.aload_n 0, 1) := by decide +kernel
theorem dX8_car_40 : decode cX8_car 40 = .ok (.iload_n 1, 1) := by decide +kernel
theorem dX8_car_41 : decode cX8_car 41 = .ok (.invokevirtual 197, 3) := by decide +kernel
theorem dX8_car_44 : decode cX8_car 44 = .ok (.goto 22, 3) := by decide +kernel
theorem dX8_car_47 : decode cX8_car 47 = .ok (.iload_n 2, 1) := by decide +kernel
theorem dX8_car_48 : decode cX8_car 48 = .ok (.iconst 4, 1) := by decide +kernel
theorem dX8_car_49 : decode cX8_car 49 = .ok (.if_icmp .ne 11, 3) := by decide +kernel
theorem dX8_car_52 : decode cX8_car 52 = .ok (.aload_n 0, 1) := by decide +kernel
theorem dX8_car_53 : decode cX8_car 53 = .ok (.iload_n 1, 1) := by decide +kernel
theorem dX8_car_54 : decode cX8_car 54 = .ok (.invokevirtual 220, 3) := by decide +kernel
theorem dX8_car_57 : decode cX8_car 57 = .ok (.goto 9, 3) := by decide +kernel
theorem dX8_car_60 : decode cX8_car 60 = .ok (.aload_n 0, 1) := by decide +kernel
theorem dX8_car_61 : decode cX8_car 61 = .ok (.iload_n 1, 1) := by decide +kernel
theorem dX8_car_62 : decode cX8_car 62 = .ok (.iload_n 2, 1) := by decide +kernel
theorem dX8_car_63 : decode cX8_car 63 = .ok (.invokevirtual 108, 3) := by decide +kernel
theorem dX8_car_66 : decode cX8_car 66 = .ok (.ireturn, 1) := by decide +kernel
theorem dX8_due_0 : decode cX8_due 0 = .ok (.aload_n 0, 1) := by decide +kernel
theorem dX8_due_1 : decode cX8_due 1 = .ok (.iconst 0, 1) := by decide +kernel
theorem dX8_due_2 : decode cX8_due 2 = .ok (.putfield 3, 3) := by decide +kernel
theorem dX8_due_5 : decode cX8_due 5 = .ok (.iload_n 1, 1) := by decide +kernel
theorem dX8_due_6 : decode cX8_due 6 = .ok (.invokestatic 174, 3) := by decide +kernel
theorem dX8_due_9 : decode cX8_due 9 = .ok (.ifCond .ne 10, 3) := by decide +kernel
theorem dX8_due_12 : decode cX8_due 12 = .ok (.aload_n 0, 1) := by decide +kernel
theorem dX8_due_13 : decode cX8_due 13 = .ok (.iconst 1, 1) := by decide +kernel
theorem dX8_due_14 : decode cX8_due 14 = .ok (.invokevirtual 177, 3) := by decide +kernel
theorem dX8_due_17 : decode cX8_due 17 = .ok (.i2l, 1) := by decide +kernel
theorem dX8_due_18 : decode cX8_due 18 = .ok (.lreturn, 1) := by decide +kernel
theorem dX8_due_19 : decode cX8_due 19 = .ok (.lconst 0, 1) := by decide +kernel
theorem dX8_due_20 : decode cX8_due 20 = .ok (.lstore_n 2, 1) := by decide +kernel
theorem dX8_due_21 : decode cX8_due 21 = .ok (.iconst 0, 1) := by decide +kernel
theorem dX8_due_22 : decode cX8_due 22 = .ok (.istore 4, 2) := by decide +kernel
theorem dX8_due_24 : decode cX8_due 24 = .ok (.iload 4, 2) := by decide +kernel
theorem dX8_due_26 : decode cX8_due 26 = .ok (.aload_n 0, 1) := by decide +kernel
theorem dX8_due_27 : decode cX8_due 27 = .ok (.getfield 13, 3) := by decide +kernel
theorem dX8_due_30 : decode cX8_due 30 = .ok (.iconst 1, 1) := by decide +kernel
theorem dX8_due_31 : decode cX8_due 31 = .ok (.iaload, 1) := by decide +kernel
theorem dX8_due_32 : decode cX8_due 32 = .ok (.if_icmp .ge 39, 3) := by decide +kernel
theorem dX8_due_35 : decode cX8_due 35 = .ok (.lload_n 2, 1) := by decide +kernel
theorem dX8_due_36 : decode cX8_due 36 = .ok (.aload_n 0, 1) := by decide +kernel
theorem dX8_due_37 : decode cX8_due 37 = .ok (.iload 4, 2) := by decide +kernel
theorem dX8_due_39 : decode cX8_due 39 = .ok (.invokevirtual 207, 3) := by decide +kernel
theorem dX8_due_42 : decode cX8_due 42 = .ok (.ifCond .eq 20, 3) := by decide +kernel
theorem dX8_due_45 : decode cX8_due 45 = .ok (.aload_n 0, 1) := by decide +kernel
theorem dX8_due_46 : decode cX8_due 46 = .ok (.iload 4, 2) := by decide +kernel
theorem dX8_due_48 : decode cX8_due 48 = .ok (.invokevirtual 119, 3) := by decide +kernel
theorem dX8_due_51 : decode cX8_due 51 = .ok (.iload_n 1, 1) := by decide +kernel
theorem dX8_due_52 : decode cX8_due 52 = .ok (.if_icmp .gt 10, 3) := by decide +kernel
theorem dX8_due_55 : decode cX8_due 55 = .ok (.lconst 1, 1) := by decide +kernel
theorem dX8_due_56 : decode cX8_due 56 = .ok (.iload 4, 2) := by decide +kernel
theorem dX8_due_58 : decode cX8_due 58 = .ok (.lshl, 1) := by decide +kernel
theorem dX8_due_59 : decode cX8_due 59 = .ok (.goto 4, 3) := by decide +kernel
theorem dX8_due_62 : decode cX8_due 62 = .ok (.lconst 0, 1) := by decide +kernel
theorem dX8_due_63 : decode cX8_due 63 = .ok (.lor, 1) := by decide +kernel
theorem dX8_due_64 : decode cX8_due 64 = .ok (.lstore_n 2, 1) := by decide +kernel
theorem dX8_due_65 : decode cX8_due 65 = .ok (.iinc 4 1, 3) := by decide +kernel
theorem dX8_due_68 : decode cX8_due 68 = .ok (.goto (-44), 3) := by decide +kernel
theorem dX8_due_71 : decode cX8_due 71 = .ok (.lload_n 2, 1) := by decide +kernel
theorem dX8_due_72 : decode cX8_due 72 = .ok (.lreturn, 1) := by decide +kernel
theorem dX8_closes_0 : decode cX8_closes 0 = .ok (.iload_n 1, 1) := by decide +kernel
theorem dX8_closes_1 : decode cX8_closes 1 = .ok (.invokestatic 223, 3) := by decide +kernel
theorem dX8_closes_4 : decode cX8_closes 4 = .ok (.ifCond .ne 9, 3) := by decide +kernel
theorem dX8_closes_7 : decode cX8_closes 7 = .ok (.aload_n 0, 1) := by decide +kernel
theorem dX8_closes_8 : decode cX8_closes 8 = .ok (.iconst 1, 1) := by decide +kernel
theorem dX8_closes_9 : decode cX8_closes 9 = .ok (.invokevirtual 177, 3) := by decide +kernel
theorem dX8_closes_12 : decode cX8_closes 12 = .ok (.ireturn, 1) := by decide +kernel
theorem dX8_closes_13 : decode cX8_closes 13 = .ok (.aload_n 0, 1) := by decide +kernel
theorem dX8_closes_14 : decode cX8_closes 14 = .ok (.getfield 13, 3) := by decide +kernel
theorem dX8_closes_17 : decode cX8_closes 17 = .ok (.bipush 19, 2) := by decide +kernel
theorem dX8_closes_19 : decode cX8_closes 19 = .ok (.iload_n 1, 1) := by decide +kernel
theorem dX8_closes_20 : decode cX8_closes 20 = .ok (.iadd, 1) := by decide +kernel
theorem dX8_closes_21 : decode cX8_closes 21 = .ok (.iaload, 1) := by decide +kernel
theorem dX8_closes_22 : decode cX8_closes 22 = .ok (.istore_n 3, 1) := by decide +kernel
theorem dX8_closes_23 : decode cX8_closes 23 = .ok (.aload_n 0, 1) := by decide +kernel
theorem dX8_closes_24 : decode cX8_closes 24 = .ok (.getfield 13, 3) := by decide +kernel
theorem dX8_closes_27 : decode cX8_closes 27 = .ok (.bipush 19, 2) := by decide +kernel
theorem dX8_closes_29 : decode cX8_closes 29 = .ok (.iload_n 1, 1) := by decide +kernel
theorem dX8_closes_30 : decode cX8_closes 30 = .ok (.iadd, 1) := by decide +kernel
theorem dX8_closes_31 : decode cX8_closes 31 = .ok (.iload_n 2, 1) := by decide +kernel
theorem dX8_closes_32 : decode cX8_closes 32 = .ok (.iastore, 1) := by decide +kernel
theorem dX8_closes_33 : decode cX8_closes 33 = .ok (.iload_n 3, 1) := by decide +kernel
theorem dX8_closes_34 : decode cX8_closes 34 = .ok (.ireturn, 1) := by decide +kernel
theorem dX8_setClosed_0 : decode cX8_setClosed 0 = .ok (.aload_n 0, 1) := by decide +kernel
theorem dX8_setClosed_1 : decode cX8_setClosed 1 = .ok (.invokevirtual 188, 3) := by decide +kernel
theorem dX8_setClosed_4 : decode cX8_setClosed 4 = .ok (.aload_n 0, 1) := by decide +kernel
theorem dX8_setClosed_5 : decode cX8_setClosed 5 = .ok (.aload_n 0, 1) := by decide +kernel
theorem dX8_setClosed_6 : decode cX8_setClosed 6 = .ok (.iload_n 1, 1) := by decide +kernel
theorem dX8_setClosed_7 : decode cX8_setClosed 7 = .ok (.iload_n 2, 1) := by decide +kernel
theorem dX8_setClosed_8 : decode cX8_setClosed 8 = .ok (.ifCond .eq 7, 3) := by decide +kernel
theorem dX8_setClosed_11 : decode cX8_setClosed 11 = .ok (.iconst 1, 1) := by decide +kernel
theorem dX8_setClosed_12 : decode cX8_setClosed 12 = .ok (.goto 4, 3) := by decide +kernel
theorem dX8_setClosed_15 : decode cX8_setClosed 15 = .ok (.iconst 0, 1) := by decide +kernel
theorem dX8_setClosed_16 : decode cX8_setClosed 16 = .ok (.invokevirtual 226, 3) := by decide +kernel
theorem dX8_setClosed_19 : decode cX8_setClosed 19 = .ok (.invokevirtual 194, 3) := by decide +kernel
theorem dX8_setClosed_22 : decode cX8_setClosed 22 = .ok (.iconst 1, 1) := by decide +kernel
theorem dX8_setClosed_23 : decode cX8_setClosed 23 = .ok (.if_icmp .ne 7, 3) := by decide +kernel
theorem dX8_setClosed_26 : decode cX8_setClosed 26 = .ok (.iconst 1, 1) := by decide +kernel
theorem dX8_setClosed_27 : decode cX8_setClosed 27 = .ok (.goto 4, 3) := by decide +kernel
theorem dX8_setClosed_30 : decode cX8_setClosed 30 = .ok (.iconst 0, 1) := by decide +kernel
theorem dX8_setClosed_31 : decode cX8_setClosed 31 = .ok (.ireturn, 1) := by decide +kernel
theorem dX8_bay_0 : decode cX8_bay 0 = .ok (.aload_n 0, 1) := by decide +kernel
theorem dX8_bay_1 : decode cX8_bay 1 = .ok (.iconst 0, 1) := by decide +kernel
theorem dX8_bay_2 : decode cX8_bay 2 = .ok (.putfield 3, 3) := by decide +kernel
theorem dX8_bay_5 : decode cX8_bay 5 = .ok (.iload_n 1, 1) := by decide +kernel
theorem dX8_bay_6 : decode cX8_bay 6 = .ok (.invokestatic 223, 3) := by decide +kernel
theorem dX8_bay_9 : decode cX8_bay 9 = .ok (.ifCond .ne 9, 3) := by decide +kernel
theorem dX8_bay_12 : decode cX8_bay 12 = .ok (.aload_n 0, 1) := by decide +kernel
theorem dX8_bay_13 : decode cX8_bay 13 = .ok (.iconst 1, 1) := by decide +kernel
theorem dX8_bay_14 : decode cX8_bay 14 = .ok (.invokevirtual 177, 3) := by decide +kernel
theorem dX8_bay_17 : decode cX8_bay 17 = .ok (.ireturn, 1) := by decide +kernel
theorem dX8_bay_18 : decode cX8_bay 18 = .ok (.iload_n 2, 1) := by decide +kernel
theorem dX8_bay_19 : decode cX8_bay 19 = .ok (.tableswitch 112 0 7 #[45, 50, 55, 60, 65, 78, 88, 98], 45) := by decide +kernel
theorem dX8_bay_64 : decode cX8_bay 64 = .ok (.iload_n 1, 1) := by decide +kernel
theorem dX8_bay_65 : decode cX8_bay 65 = .ok (.invokestatic 122, 3) := by decide +kernel
theorem dX8_bay_68 : decode cX8_bay 68 = .ok (.ireturn, 1) := by decide +kernel
theorem dX8_bay_69 : decode cX8_bay 69 = .ok (.iload_n 1, 1) := by decide +kernel
theorem dX8_bay_70 : decode cX8_bay 70 = .ok (.invokestatic 229, 3) := by decide +kernel
theorem dX8_bay_73 : decode cX8_bay 73 = .ok (.ireturn, 1) := by decide +kernel
theorem dX8_bay_74 : decode cX8_bay 74 = .ok (.iload_n 1, 1) := by decide +kernel
theorem dX8_bay_75 : decode cX8_bay 75 = .ok (.invokestatic 97, 3) := by decide +kernel
theorem dX8_bay_78 : decode cX8_bay 78 = .ok (.ireturn, 1) := by decide +kernel
theorem dX8_bay_79 : decode cX8_bay 79 = .ok (.iload_n 1, 1) := by decide +kernel
theorem dX8_bay_80 : decode cX8_bay 80 = .ok (.invokestatic 101, 3) := by decide +kernel
theorem dX8_bay_83 : decode cX8_bay 83 = .ok (.ireturn, 1) := by decide +kernel
theorem dX8_bay_84 : decode cX8_bay 84 = .ok (.iload_n 1, 1) := by decide +kernel
theorem dX8_bay_85 : decode cX8_bay 85 = .ok (.invokestatic 130, 3) := by decide +kernel
theorem dX8_bay_88 : decode cX8_bay 88 = .ok (.ifCond .eq 7, 3) := by decide +kernel
theorem dX8_bay_91 : decode cX8_bay 91 = .ok (.iconst 1, 1) := by decide +kernel
theorem dX8_bay_92 : decode cX8_bay 92 = .ok (.goto 4, 3) := by decide +kernel
theorem dX8_bay_95 : decode cX8_bay 95 = .ok (.iconst 0, 1) := by decide +kernel
theorem dX8_bay_96 : decode cX8_bay 96 = .ok (.ireturn, 1) := by decide +kernel
theorem dX8_bay_97 : decode cX8_bay 97 = .ok (.aload_n 0, 1) := by decide +kernel
theorem dX8_bay_98 : decode cX8_bay 98 = .ok (.getfield 13, 3) := by decide +kernel
theorem dX8_bay_101 : decode cX8_bay 101 = .ok (.bipush 19, 2) := by decide +kernel
theorem dX8_bay_103 : decode cX8_bay 103 = .ok (.iload_n 1, 1) := by decide +kernel
theorem dX8_bay_104 : decode cX8_bay 104 = .ok (.iadd, 1) := by decide +kernel
theorem dX8_bay_105 : decode cX8_bay 105 = .ok (.iaload, 1) := by decide +kernel
theorem dX8_bay_106 : decode cX8_bay 106 = .ok (.ireturn, 1) := by decide +kernel
theorem dX8_bay_107 : decode cX8_bay 107 = .ok (.aload_n 0, 1) := by decide +kernel
theorem dX8_bay_108 : decode cX8_bay 108 = .ok (.getfield 13, 3) := by decide +kernel
theorem dX8_bay_111 : decode cX8_bay 111 = .ok (.bipush 79, 2) := by decide +kernel
theorem dX8_bay_113 : decode cX8_bay 113 = .ok (.iload_n 1, 1) := by decide +kernel
theorem dX8_bay_114 : decode cX8_bay 114 = .ok (.iadd, 1) := by decide +kernel
theorem dX8_bay_115 : decode cX8_bay 115 = .ok (.iaload, 1) := by decide +kernel
theorem dX8_bay_116 : decode cX8_bay 116 = .ok (.ireturn, 1) := by decide +kernel
theorem dX8_bay_117 : decode cX8_bay 117 = .ok (.aload_n 0, 1) := by decide +kernel
theorem dX8_bay_118 : decode cX8_bay 118 = .ok (.iload_n 1, 1) := by decide +kernel
theorem dX8_bay_119 : decode cX8_bay 119 = .ok (.invokevirtual 133, 3) := by decide +kernel
theorem dX8_bay_122 : decode cX8_bay 122 = .ok (.ifCond .eq 7, 3) := by decide +kernel
theorem dX8_bay_125 : decode cX8_bay 125 = .ok (.iconst 1, 1) := by decide +kernel
theorem dX8_bay_126 : decode cX8_bay 126 = .ok (.goto 4, 3) := by decide +kernel
theorem dX8_bay_129 : decode cX8_bay 129 = .ok (.iconst 0, 1) := by decide +kernel
theorem dX8_bay_130 : decode cX8_bay 130 = .ok (.ireturn, 1) := by decide +kernel
theorem dX8_bay_131 : decode cX8_bay 131 = .ok (.aload_n 0, 1) := by decide +kernel
theorem dX8_bay_132 : decode cX8_bay 132 = .ok (.iconst 2, 1) := by decide +kernel
theorem dX8_bay_133 : decode cX8_bay 133 = .ok (.invokevirtual 177, 3) := by decide +kernel
theorem dX8_bay_136 : decode cX8_bay 136 = .ok (.ireturn, 1) := by decide +kernel
theorem dX8_choice_0 : decode cX8_choice 0 = .ok (.aload_n 0, 1) := by decide +kernel
theorem dX8_choice_1 : decode cX8_choice 1 = .ok (.iconst 0, 1) := by decide +kernel
theorem dX8_choice_2 : decode cX8_choice 2 = .ok (.putfield 3, 3) := by decide +kernel
theorem dX8_choice_5 : decode cX8_choice 5 = .ok (.iload_n 1, 1) := by decide +kernel
theorem dX8_choice_6 : decode cX8_choice 6 = .ok (.invokestatic 171, 3) := by decide +kernel
theorem dX8_choice_9 : decode cX8_choice 9 = .ok (.ifCond .eq 10, 3) := by decide +kernel
theorem dX8_choice_12 : decode cX8_choice 12 = .ok (.iload_n 2, 1) := by decide +kernel
theorem dX8_choice_13 : decode cX8_choice 13 = .ok (.invokestatic 174, 3) := by decide +kernel
theorem dX8_choice_16 : decode cX8_choice 16 = .ok (.ifCond .ne 9, 3) := by decide +kernel
theorem dX8_choice_19 : decode cX8_choice 19 = .ok (.aload_n 0, 1) := by decide +kernel
theorem dX8_choice_20 : decode cX8_choice 20 = .ok (.iconst 1, 1) := by decide +kernel
theorem dX8_choice_21 : decode cX8_choice 21 = .ok (.invokevirtual 177, 3) := by decide +kernel
theorem dX8_choice_24 : decode cX8_choice 24 = .ok (.ireturn, 1) := by decide +kernel
theorem dX8_choice_25 : decode cX8_choice 25 = .ok (.aload_n 0, 1) := by decide +kernel
theorem dX8_choice_26 : decode cX8_choice 26 = .ok (.iload_n 1, 1) := by decide +kernel
theorem dX8_choice_27 : decode cX8_choice 27 = .ok (.iload_n 2, 1) := by decide +kernel
theorem dX8_choice_28 : decode cX8_choice 28 = .ok (.iconst (-1), 1) := by decide +kernel
theorem dX8_choice_29 : decode cX8_choice 29 = .ok (.invokevirtual 180, 3) := by decide +kernel
theorem dX8_choice_32 : decode cX8_choice 32 = .ok (.istore_n 3, 1) := by decide +kernel
theorem dX8_choice_33 : decode cX8_choice 33 = .ok (.iload_n 3, 1) := by decide +kernel
theorem dX8_choice_34 : decode cX8_choice 34 = .ok (.ifCond .ge 11, 3) := by decide +kernel
theorem dX8_choice_37 : decode cX8_choice 37 = .ok (.aload_n 0, 1) := by decide +kernel
theorem dX8_choice_38 : decode cX8_choice 38 = .ok (.iconst 2, 1) := by decide +kernel
theorem dX8_choice_39 : decode cX8_choice 39 = .ok (.invokevirtual 177, 3) := by decide +kernel
theorem dX8_choice_42 : decode cX8_choice 42 = .ok (.goto 4, 3) := by decide +kernel
theorem dX8_choice_45 : decode cX8_choice 45 = .ok (.iload_n 3, 1) := by decide +kernel
theorem dX8_choice_46 : decode cX8_choice 46 = .ok (.ireturn, 1) := by decide +kernel
theorem dX8_refuge_0 : decode cX8_refuge 0 = .ok (.aload_n 0, 1) := by decide +kernel
theorem dX8_refuge_1 : decode cX8_refuge 1 = .ok (.iconst 0, 1) := by decide +kernel
theorem dX8_refuge_2 : decode cX8_refuge 2 = .ok (.putfield 3, 3) := by decide +kernel
theorem dX8_refuge_5 : decode cX8_refuge 5 = .ok (.aload_n 0, 1) := by decide +kernel
theorem dX8_refuge_6 : decode cX8_refuge 6 = .ok (.iload_n 1, 1) := by decide +kernel
theorem dX8_refuge_7 : decode cX8_refuge 7 = .ok (.invokevirtual 207, 3) := by decide +kernel
theorem dX8_refuge_10 : decode cX8_refuge 10 = .ok (.ifCond .ne 9, 3) := by decide +kernel
theorem dX8_refuge_13 : decode cX8_refuge 13 = .ok (.aload_n 0, 1) := by decide +kernel
theorem dX8_refuge_14 : decode cX8_refuge 14 = .ok (.iconst 1, 1) := by decide +kernel
theorem dX8_refuge_15 : decode cX8_refuge 15 = .ok (.invokevirtual 177, 3) := by decide +kernel
theorem dX8_refuge_18 : decode cX8_refuge 18 = .ok (.ireturn, 1) := by decide +kernel
theorem dX8_refuge_19 : decode cX8_refuge 19 = .ok (.aload_n 0, 1) := by decide +kernel
theorem dX8_refuge_20 : decode cX8_refuge 20 = .ok (.aload_n 0, 1) := by decide +kernel
theorem dX8_refuge_21 : decode cX8_refuge 21 = .ok (.iload_n 1, 1) := by decide +kernel
theorem dX8_refuge_22 : decode cX8_refuge 22 = .ok (.iconst 0, 1) := by decide +kernel
theorem dX8_refuge_23 : decode cX8_refuge 23 = .ok (.invokevirtual 108, 3) := by decide +kernel
theorem dX8_refuge_26 : decode cX8_refuge 26 = .ok (.aload_n 0, 1) := by decide +kernel
theorem dX8_refuge_27 : decode cX8_refuge 27 = .ok (.iload_n 1, 1) := by decide +kernel
theorem dX8_refuge_28 : decode cX8_refuge 28 = .ok (.invokevirtual 119, 3) := by decide +kernel
theorem dX8_refuge_31 : decode cX8_refuge 31 = .ok (.aload_n 0, 1) := by decide +kernel
theorem dX8_refuge_32 : decode cX8_refuge 32 = .ok (.iload_n 1, 1) := by decide +kernel
theorem dX8_refuge_33 : decode cX8_refuge 33 = .ok (.invokevirtual 116, 3) := by decide +kernel
theorem dX8_refuge_36 : decode cX8_refuge 36 = .ok (.invokevirtual 180, 3) := by decide +kernel
theorem dX8_refuge_39 : decode cX8_refuge 39 = .ok (.istore_n 2, 1) := by decide +kernel
theorem dX8_refuge_40 : decode cX8_refuge 40 = .ok (.iload_n 2, 1) := by decide +kernel
theorem dX8_refuge_41 : decode cX8_refuge 41 = .ok (.ifCond .ge 11, 3) := by decide +kernel
theorem dX8_refuge_44 : decode cX8_refuge 44 = .ok (.aload_n 0, 1) := by decide +kernel
theorem dX8_refuge_45 : decode cX8_refuge 45 = .ok (.iconst 2, 1) := by decide +kernel
theorem dX8_refuge_46 : decode cX8_refuge 46 = .ok (.invokevirtual 177, 3) := by decide +kernel
theorem dX8_refuge_49 : decode cX8_refuge 49 = .ok (.goto 4, 3) := by decide +kernel
theorem dX8_refuge_52 : decode cX8_refuge 52 = .ok (.iload_n 2, 1) := by decide +kernel
theorem dX8_refuge_53 : decode cX8_refuge 53 = .ok (.ireturn, 1) := by decide +kernel
theorem dX8_isCounted_0 : decode cX8_isCounted 0 = .ok (.aload_n 0, 1) := by decide +kernel
theorem dX8_isCounted_1 : decode cX8_isCounted 1 = .ok (.getfield 13, 3) := by decide +kernel
theorem dX8_isCounted_4 : decode cX8_isCounted 4 = .ok (.bipush 19, 2) := by decide +kernel
theorem dX8_isCounted_6 : decode cX8_isCounted 6 = .ok (.iload_n 1, 1) := by decide +kernel
theorem dX8_isCounted_7 : decode cX8_isCounted 7 = .ok (.iadd, 1) := by decide +kernel
theorem dX8_isCounted_8 : decode cX8_isCounted 8 = .ok (.iaload, 1) := by decide +kernel
theorem dX8_isCounted_9 : decode cX8_isCounted 9 = .ok (.ifCond .ne 15, 3) := by decide +kernel
theorem dX8_isCounted_12 : decode cX8_isCounted 12 = .ok (.aload_n 0, 1) := by decide +kernel
theorem dX8_isCounted_13 : decode cX8_isCounted 13 = .ok (.iload_n 1, 1) := by decide +kernel
theorem dX8_isCounted_14 : decode cX8_isCounted 14 = .ok (.invokevirtual 104, 3) := by decide +kernel
theorem dX8_isCounted_17 : decode cX8_isCounted 17 = .ok (.ifCond .eq 7, 3) := by decide +kernel
theorem dX8_isCounted_20 : decode cX8_isCounted 20 = .ok (.iconst 1, 1) := by decide +kernel
theorem dX8_isCounted_21 : decode cX8_isCounted 21 = .ok (.goto 4, 3) := by decide +kernel
theorem dX8_isCounted_24 : decode cX8_isCounted 24 = .ok (.iconst 0, 1) := by decide +kernel
theorem dX8_isCounted_25 : decode cX8_isCounted 25 = .ok (.istore_n 3, 1) := by decide +kernel
theorem dX8_isCounted_26 : decode cX8_isCounted 26 = .ok (.aload_n 0, 1) := by decide +kernel
theorem dX8_isCounted_27 : decode cX8_isCounted 27 = .ok (.iload_n 1, 1) := by decide +kernel
theorem dX8_isCounted_28 : decode cX8_isCounted 28 = .ok (.invokevirtual 104, 3) := by decide +kernel
theorem dX8_isCounted_31 : decode cX8_isCounted 31 = .ok (.ifCond .eq 7, 3) := by decide +kernel
theorem dX8_isCounted_34 : decode cX8_isCounted 34 = .ok (.iconst (-1), 1) := by decide +kernel
theorem dX8_isCounted_35 : decode cX8_isCounted 35 = .ok (.goto 16, 3) := by decide +kernel
theorem dX8_isCounted_38 : decode cX8_isCounted 38 = .ok (.aload_n 0, 1) := by decide +kernel
theorem dX8_isCounted_39 : decode cX8_isCounted 39 = .ok (.aload_n 0, 1) := by decide +kernel
theorem dX8_isCounted_40 : decode cX8_isCounted 40 = .ok (.getfield 13, 3) := by decide +kernel
theorem dX8_isCounted_43 : decode cX8_isCounted 43 = .ok (.bipush 79, 2) := by decide +kernel
theorem dX8_isCounted_45 : decode cX8_isCounted 45 = .ok (.iload_n 1, 1) := by decide +kernel
theorem dX8_isCounted_46 : decode cX8_isCounted 46 = .ok (.iadd, 1) := by decide +kernel
theorem dX8_isCounted_47 : decode cX8_isCounted 47 = .ok (.iaload, 1) := by decide +kernel
theorem dX8_isCounted_48 : decode cX8_isCounted 48 = .ok (.invokevirtual 197, 3) := by decide +kernel
theorem dX8_isCounted_51 : decode cX8_isCounted 51 = .ok (.istore 4, 2) := by decide +kernel
theorem dX8_isCounted_53 : decode cX8_isCounted 53 = .ok (.iload_n 2, 1) := by decide +kernel
theorem dX8_isCounted_54 : decode cX8_isCounted 54 = .ok (.tableswitch 98 0 4 #[34, 48, 50, 68, 87], 34) := by decide +kernel
theorem dX8_isCounted_88 : decode cX8_isCounted 88 = .ok (.aload_n 0, 1) := by decide +kernel
theorem dX8_isCounted_89 : decode cX8_isCounted 89 = .ok (.iload_n 1, 1) := by decide +kernel
theorem dX8_isCounted_90 : decode cX8_isCounted 90 = .ok (.invokevirtual 104, 3) := by decide +kernel
theorem dX8_isCounted_93 : decode cX8_isCounted 93 = .ok (.ifCond .ne 7, 3) := by decide +kernel
theorem dX8_isCounted_96 : decode cX8_isCounted 96 = .ok (.iconst 1, 1) := by decide +kernel
theorem dX8_isCounted_97 : decode cX8_isCounted 97 = .ok (.goto 4, 3) := by decide +kernel
theorem dX8_isCounted_100 : decode cX8_isCounted 100 = .ok (.iconst 0, 1) := by decide +kernel
theorem dX8_isCounted_101 : decode cX8_isCounted 101 = .ok (.ireturn, 1) := by decide +kernel
theorem dX8_isCounted_102 : decode cX8_isCounted 102 = .ok (.iload_n 3, 1) := by decide +kernel
theorem dX8_isCounted_103 : decode cX8_isCounted 103 = .ok (.ireturn, 1) := by decide +kernel
theorem dX8_isCounted_104 : decode cX8_isCounted 104 = .ok (.iload_n 3, 1) := by decide +kernel
theorem dX8_isCounted_105 : decode cX8_isCounted 105 = .ok (.ifCond .eq 15, 3) := by decide +kernel
theorem dX8_isCounted_108 : decode cX8_isCounted 108 = .ok (.aload_n 0, 1) := by decide +kernel
theorem dX8_isCounted_109 : decode cX8_isCounted 109 = .ok (.iload_n 1, 1) := by decide +kernel
theorem dX8_isCounted_110 : decode cX8_isCounted 110 = .ok (.invokevirtual 133, 3) := by decide +kernel
theorem dX8_isCounted_113 : decode cX8_isCounted 113 = .ok (.ifCond .eq 7, 3) := by decide +kernel
theorem dX8_isCounted_116 : decode cX8_isCounted 116 = .ok (.iconst 1, 1) := by decide +kernel
theorem dX8_isCounted_117 : decode cX8_isCounted 117 = .ok (.goto 4, 3) := by decide +kernel
theorem dX8_isCounted_120 : decode cX8_isCounted 120 = .ok (.iconst 0, 1) := by decide +kernel
theorem dX8_isCounted_121 : decode cX8_isCounted 121 = .ok (.ireturn, 1) := by decide +kernel
theorem dX8_isCounted_122 : decode cX8_isCounted 122 = .ok (.aload_n 0, 1) := by decide +kernel
theorem dX8_isCounted_123 : decode cX8_isCounted 123 = .ok (.getfield 13, 3) := by decide +kernel
theorem dX8_isCounted_126 : decode cX8_isCounted 126 = .ok (.bipush 19, 2) := by decide +kernel
theorem dX8_isCounted_128 : decode cX8_isCounted 128 = .ok (.iload_n 1, 1) := by decide +kernel
theorem dX8_isCounted_129 : decode cX8_isCounted 129 = .ok (.iadd, 1) := by decide +kernel
theorem dX8_isCounted_130 : decode cX8_isCounted 130 = .ok (.iaload, 1) := by decide +kernel
theorem dX8_isCounted_131 : decode cX8_isCounted 131 = .ok (.iconst 1, 1) := by decide +kernel
theorem dX8_isCounted_132 : decode cX8_isCounted 132 = .ok (.if_icmp .ne 7, 3) := by decide +kernel
theorem dX8_isCounted_135 : decode cX8_isCounted 135 = .ok (.iconst 1, 1) := by decide +kernel
theorem dX8_isCounted_136 : decode cX8_isCounted 136 = .ok (.goto 4, 3) := by decide +kernel
theorem dX8_isCounted_139 : decode cX8_isCounted 139 = .ok (.iconst 0, 1) := by decide +kernel
theorem dX8_isCounted_140 : decode cX8_isCounted 140 = .ok (.ireturn, 1) := by decide +kernel
theorem dX8_isCounted_141 : decode cX8_isCounted 141 = .ok (.iload 4, 2) := by decide +kernel
theorem dX8_isCounted_143 : decode cX8_isCounted 143 = .ok (.ifCond .lt 7, 3) := by decide +kernel
theorem dX8_isCounted_146 : decode cX8_isCounted 146 = .ok (.iconst 1, 1) := by decide +kernel
theorem dX8_isCounted_147 : decode cX8_isCounted 147 = .ok (.goto 4, 3) := by decide +kernel
theorem dX8_isCounted_150 : decode cX8_isCounted 150 = .ok (.iconst 0, 1) := by decide +kernel
theorem dX8_isCounted_151 : decode cX8_isCounted 151 = .ok (.ireturn, 1) := by decide +kernel
theorem dX8_isCounted_152 : decode cX8_isCounted 152 = .ok (.iload 4, 2) := by decide +kernel
theorem dX8_isCounted_154 : decode cX8_isCounted 154 = .ok (.ifCond .lt 29, 3) := by decide +kernel
theorem dX8_isCounted_157 : decode cX8_isCounted 157 = .ok (.aload_n 0, 1) := by decide +kernel
theorem dX8_isCounted_158 : decode cX8_isCounted 158 = .ok (.aload_n 0, 1) := by decide +kernel
theorem dX8_isCounted_159 : decode cX8_isCounted 159 = .ok (.getfield 13, 3) := by decide +kernel
theorem dX8_isCounted_162 : decode cX8_isCounted 162 = .ok (.bipush 79, 2) := by decide +kernel
theorem dX8_isCounted_164 : decode cX8_isCounted 164 = .ok (.iload_n 1, 1) := by decide +kernel
theorem dX8_isCounted_165 : decode cX8_isCounted 165 = .ok (.iadd, 1) := by decide +kernel
theorem dX8_isCounted_166 : decode cX8_isCounted 166 = .ok (.iaload, 1) := by decide +kernel
theorem dX8_isCounted_167 : decode cX8_isCounted 167 = .ok (.invokevirtual 119, 3) := by decide +kernel
theorem dX8_isCounted_170 : decode cX8_isCounted 170 = .ok (.aload_n 0, 1) := by decide +kernel
theorem dX8_isCounted_171 : decode cX8_isCounted 171 = .ok (.iload 4, 2) := by decide +kernel
theorem dX8_isCounted_173 : decode cX8_isCounted 173 = .ok (.invokevirtual 119, 3) := by decide +kernel
theorem dX8_isCounted_176 : decode cX8_isCounted 176 = .ok (.if_icmp .ge 7, 3) := by decide +kernel
theorem dX8_isCounted_179 : decode cX8_isCounted 179 = .ok (.iconst 1, 1) := by decide +kernel
theorem dX8_isCounted_180 : decode cX8_isCounted 180 = .ok (.goto 4, 3) := by decide +kernel
theorem dX8_isCounted_183 : decode cX8_isCounted 183 = .ok (.iconst 0, 1) := by decide +kernel
theorem dX8_isCounted_184 : decode cX8_isCounted 184 = .ok (.ireturn, 1) := by decide +kernel
theorem dX8_bays_0 : decode cX8_bays 0 = .ok (.aload_n 0, 1) := by decide +kernel
theorem dX8_bays_1 : decode cX8_bays 1 = .ok (.iconst 0, 1) := by decide +kernel
theorem dX8_bays_2 : decode cX8_bays 2 = .ok (.putfield 3, 3) := by decide +kernel
theorem dX8_bays_5 : decode cX8_bays 5 = .ok (.iload_n 1, 1) := by decide +kernel
theorem dX8_bays_6 : decode cX8_bays 6 = .ok (.iconst 0, 1) := by decide +kernel
theorem dX8_bays_7 : decode cX8_bays 7 = .ok (.iconst 5, 1) := by decide +kernel
theorem dX8_bays_8 : decode cX8_bays 8 = .ok (.invokestatic 112, 3) := by decide +kernel
theorem dX8_bays_11 : decode cX8_bays 11 = .ok (.ifCond .ne 9, 3) := by decide +kernel
theorem dX8_bays_14 : decode cX8_bays 14 = .ok (.aload_n 0, 1) := by decide +kernel
theorem dX8_bays_15 : decode cX8_bays 15 = .ok (.iconst 1, 1) := by decide +kernel
theorem dX8_bays_16 : decode cX8_bays 16 = .ok (.invokevirtual 177, 3) := by decide +kernel
theorem dX8_bays_19 : decode cX8_bays 19 = .ok (.ireturn, 1) := by decide +kernel
theorem dX8_bays_20 : decode cX8_bays 20 = .ok (.iconst 0, 1) := by decide +kernel
theorem dX8_bays_21 : decode cX8_bays 21 = .ok (.istore_n 2, 1) := by decide +kernel
theorem dX8_bays_22 : decode cX8_bays 22 = .ok (.iconst 0, 1) := by decide +kernel
theorem dX8_bays_23 : decode cX8_bays 23 = .ok (.istore_n 3, 1) := by decide +kernel
theorem dX8_bays_24 : decode cX8_bays 24 = .ok (.iload_n 3, 1) := by decide +kernel
theorem dX8_bays_25 : decode cX8_bays 25 = .ok (.bipush 60, 2) := by decide +kernel
theorem dX8_bays_27 : decode cX8_bays 27 = .ok (.if_icmp .ge 26, 3) := by decide +kernel
theorem dX8_bays_30 : decode cX8_bays 30 = .ok (.iload_n 2, 1) := by decide +kernel
theorem dX8_bays_31 : decode cX8_bays 31 = .ok (.aload_n 0, 1) := by decide +kernel
theorem dX8_bays_32 : decode cX8_bays 32 = .ok (.iload_n 3, 1) := by decide +kernel
theorem dX8_bays_33 : decode cX8_bays 33 = .ok (.iload_n 1, 1) := by decide +kernel
theorem dX8_bays_34 : decode cX8_bays 34 = .ok (.invokevirtual 232, 3) := by decide +kernel
theorem dX8_bays_37 : decode cX8_bays 37 = .ok (.ifCond .eq 7, 3) := by decide +kernel
theorem dX8_bays_40 : decode cX8_bays 40 = .ok (.iconst 1, 1) := by decide +kernel
theorem dX8_bays_41 : decode cX8_bays 41 = .ok (.goto 4, 3) := by decide +kernel
theorem dX8_bays_44 : decode cX8_bays 44 = .ok (.iconst 0, 1) := by decide +kernel
theorem dX8_bays_45 : decode cX8_bays 45 = .ok (.iadd, 1) := by decide +kernel
theorem dX8_bays_46 : decode cX8_bays 46 = .ok (.istore_n 2, 1) := by decide +kernel
theorem dX8_bays_47 : decode cX8_bays 47 = .ok (.iinc 3 1, 3) := by decide +kernel
theorem dX8_bays_50 : decode cX8_bays 50 = .ok (.goto (-26), 3) := by decide +kernel
theorem dX8_bays_53 : decode cX8_bays 53 = .ok (.iload_n 2, 1) := by decide +kernel
theorem dX8_bays_54 : decode cX8_bays 54 = .ok (.ireturn, 1) := by decide +kernel
theorem dX8_isSet_0 : decode cX8_isSet 0 = .ok (.aload_n 0, 1) := by decide +kernel
theorem dX8_isSet_1 : decode cX8_isSet 1 = .ok (.iconst 0, 1) := by decide +kernel
theorem dX8_isSet_2 : decode cX8_isSet 2 = .ok (.putfield 3, 3) := by decide +kernel
theorem dX8_isSet_5 : decode cX8_isSet 5 = .ok (.lload_n 1, 1) := by decide +kernel
theorem dX8_isSet_6 : decode cX8_isSet 6 = .ok (.lconst 0, 1) := by decide +kernel
theorem dX8_isSet_7 : decode cX8_isSet 7 = .ok (.lcmp, 1) := by decide +kernel
theorem dX8_isSet_8 : decode cX8_isSet 8 = .ok (.ifCond .eq 16, 3) := by decide +kernel
theorem dX8_isSet_11 : decode cX8_isSet 11 = .ok (.lload_n 1, 1) := by decide +kernel
theorem dX8_isSet_12 : decode cX8_isSet 12 = .ok (.bipush 40, 2) := by decide +kernel
theorem dX8_isSet_14 : decode cX8_isSet 14 = .ok (.lushr, 1) := by decide +kernel
theorem dX8_isSet_15 : decode cX8_isSet 15 = .ok (.lconst 0, 1) := by decide +kernel
theorem dX8_isSet_16 : decode cX8_isSet 16 = .ok (.lcmp, 1) := by decide +kernel
theorem dX8_isSet_17 : decode cX8_isSet 17 = .ok (.ifCond .ne 7, 3) := by decide +kernel
theorem dX8_isSet_20 : decode cX8_isSet 20 = .ok (.iconst 1, 1) := by decide +kernel
theorem dX8_isSet_21 : decode cX8_isSet 21 = .ok (.goto 4, 3) := by decide +kernel
theorem dX8_isSet_24 : decode cX8_isSet 24 = .ok (.iconst 0, 1) := by decide +kernel
theorem dX8_isSet_25 : decode cX8_isSet 25 = .ok (.istore_n 3, 1) := by decide +kernel
theorem dX8_isSet_26 : decode cX8_isSet 26 = .ok (.iconst 0, 1) := by decide +kernel
theorem dX8_isSet_27 : decode cX8_isSet 27 = .ok (.istore 4, 2) := by decide +kernel
theorem dX8_isSet_29 : decode cX8_isSet 29 = .ok (.iload 4, 2) := by decide +kernel
theorem dX8_isSet_31 : decode cX8_isSet 31 = .ok (.bipush 40, 2) := by decide +kernel
theorem dX8_isSet_33 : decode cX8_isSet 33 = .ok (.if_icmp .ge 37, 3) := by decide +kernel
theorem dX8_isSet_36 : decode cX8_isSet 36 = .ok (.iload_n 3, 1) := by decide +kernel
theorem dX8_isSet_37 : decode cX8_isSet 37 = .ok (.lload_n 1, 1) := by decide +kernel
theorem dX8_isSet_38 : decode cX8_isSet 38 = .ok (.iload 4, 2) := by decide +kernel
theorem dX8_isSet_40 : decode cX8_isSet 40 = .ok (.lushr, 1) := by decide +kernel
theorem dX8_isSet_41 : decode cX8_isSet 41 = .ok (.lconst 1, 1) := by decide +kernel
theorem dX8_isSet_42 : decode cX8_isSet 42 = .ok (.land, 1) := by decide +kernel
theorem dX8_isSet_43 : decode cX8_isSet 43 = .ok (.lconst 0, 1) := by decide +kernel
theorem dX8_isSet_44 : decode cX8_isSet 44 = .ok (.lcmp, 1) := by decide +kernel
theorem dX8_isSet_45 : decode cX8_isSet 45 = .ok (.ifCond .eq 12, 3) := by decide +kernel
theorem dX8_isSet_48 : decode cX8_isSet 48 = .ok (.aload_n 0, 1) := by decide +kernel
theorem dX8_isSet_49 : decode cX8_isSet 49 = .ok (.iload 4, 2) := by decide +kernel
theorem dX8_isSet_51 : decode cX8_isSet 51 = .ok (.invokevirtual 207, 3) := by decide +kernel
theorem dX8_isSet_54 : decode cX8_isSet 54 = .ok (.ifCond .eq 7, 3) := by decide +kernel
theorem dX8_isSet_57 : decode cX8_isSet 57 = .ok (.iconst 1, 1) := by decide +kernel
theorem dX8_isSet_58 : decode cX8_isSet 58 = .ok (.goto 4, 3) := by decide +kernel
theorem dX8_isSet_61 : decode cX8_isSet 61 = .ok (.iconst 0, 1) := by decide +kernel
theorem dX8_isSet_62 : decode cX8_isSet 62 = .ok (.iand, 1) := by decide +kernel
theorem dX8_isSet_63 : decode cX8_isSet 63 = .ok (.istore_n 3, 1) := by decide +kernel
theorem dX8_isSet_64 : decode cX8_isSet 64 = .ok (.iinc 4 1, 3) := by decide +kernel
theorem dX8_isSet_67 : decode cX8_isSet 67 = .ok (.goto (-38), 3) := by decide +kernel
theorem dX8_isSet_70 : decode cX8_isSet 70 = .ok (.iload_n 3, 1) := by decide +kernel
theorem dX8_isSet_71 : decode cX8_isSet 71 = .ok (.ifCond .ne 11, 3) := by decide +kernel
theorem dX8_isSet_74 : decode cX8_isSet 74 = .ok (.aload_n 0, 1) := by decide +kernel
theorem dX8_isSet_75 : decode cX8_isSet 75 = .ok (.iconst 1, 1) := by decide +kernel
theorem dX8_isSet_76 : decode cX8_isSet 76 = .ok (.putfield 3, 3) := by decide +kernel
theorem dX8_isSet_79 : decode cX8_isSet 79 = .ok (.goto 16, 3) := by decide +kernel
theorem dX8_isSet_82 : decode cX8_isSet 82 = .ok (.lload_n 1, 1) := by decide +kernel
theorem dX8_isSet_83 : decode cX8_isSet 83 = .ok (.invokestatic 235, 3) := by decide +kernel
theorem dX8_isSet_86 : decode cX8_isSet 86 = .ok (.iconst 5, 1) := by decide +kernel
theorem dX8_isSet_87 : decode cX8_isSet 87 = .ok (.if_icmp .le 8, 3) := by decide +kernel
theorem dX8_isSet_90 : decode cX8_isSet 90 = .ok (.aload_n 0, 1) := by decide +kernel
theorem dX8_isSet_91 : decode cX8_isSet 91 = .ok (.iconst 2, 1) := by decide +kernel
theorem dX8_isSet_92 : decode cX8_isSet 92 = .ok (.putfield 3, 3) := by decide +kernel
theorem dX8_isSet_95 : decode cX8_isSet 95 = .ok (.aload_n 0, 1) := by decide +kernel
theorem dX8_isSet_96 : decode cX8_isSet 96 = .ok (.getfield 3, 3) := by decide +kernel
theorem dX8_isSet_99 : decode cX8_isSet 99 = .ok (.ifCond .eq 5, 3) := by decide +kernel
theorem dX8_isSet_102 : decode cX8_isSet 102 = .ok (.iconst 0, 1) := by decide +kernel
theorem dX8_isSet_103 : decode cX8_isSet 103 = .ok (.ireturn, 1) := by decide +kernel
theorem dX8_isSet_104 : decode cX8_isSet 104 = .ok (.aload_n 0, 1) := by decide +kernel
theorem dX8_isSet_105 : decode cX8_isSet 105 = .ok (.iconst 0, 1) := by decide +kernel
theorem dX8_isSet_106 : decode cX8_isSet 106 = .ok (.putfield 60, 3) := by decide +kernel
theorem dX8_isSet_109 : decode cX8_isSet 109 = .ok (.iconst 0, 1) := by decide +kernel
theorem dX8_isSet_110 : decode cX8_isSet 110 = .ok (.istore 4, 2) := by decide +kernel
theorem dX8_isSet_112 : decode cX8_isSet 112 = .ok (.iload 4, 2) := by decide +kernel
theorem dX8_isSet_114 : decode cX8_isSet 114 = .ok (.bipush 40, 2) := by decide +kernel
theorem dX8_isSet_116 : decode cX8_isSet 116 = .ok (.if_icmp .ge 44, 3) := by decide +kernel
theorem dX8_isSet_119 : decode cX8_isSet 119 = .ok (.lload_n 1, 1) := by decide +kernel
theorem dX8_isSet_120 : decode cX8_isSet 120 = .ok (.iload 4, 2) := by decide +kernel
theorem dX8_isSet_122 : decode cX8_isSet 122 = .ok (.lushr, 1) := by decide +kernel
theorem dX8_isSet_123 : decode cX8_isSet 123 = .ok (.lconst 1, 1) := by decide +kernel
theorem dX8_isSet_124 : decode cX8_isSet 124 = .ok (.land, 1) := by decide +kernel
theorem dX8_isSet_125 : decode cX8_isSet 125 = .ok (.lconst 0, 1) := by decide +kernel
theorem dX8_isSet_126 : decode cX8_isSet 126 = .ok (.lcmp, 1) := by decide +kernel
theorem dX8_isSet_127 : decode cX8_isSet 127 = .ok (.ifCond .ne 6, 3) := by decide +kernel
theorem dX8_isSet_130 : decode cX8_isSet 130 = .ok (.goto 24, 3) := by decide +kernel
theorem dX8_isSet_133 : decode cX8_isSet 133 = .ok (.aload_n 0, 1) := by decide +kernel
theorem dX8_isSet_134 : decode cX8_isSet 134 = .ok (.getfield 51, 3) := by decide +kernel
theorem dX8_isSet_137 : decode cX8_isSet 137 = .ok (.aload_n 0, 1) := by decide +kernel
theorem dX8_isSet_138 : decode cX8_isSet 138 = .ok (.getfield 60, 3) := by decide +kernel
theorem dX8_isSet_141 : decode cX8_isSet 141 = .ok (.iload 4, 2) := by decide +kernel
theorem dX8_isSet_143 : decode cX8_isSet 143 = .ok (.iastore, 1) := by decide +kernel
theorem dX8_isSet_144 : decode cX8_isSet 144 = .ok (.aload_n 0, 1) := by decide +kernel
theorem dX8_isSet_145 : decode cX8_isSet 145 = .ok (.dup, 1) := by decide +kernel
theorem dX8_isSet_146 : decode cX8_isSet 146 = .ok (.getfield 60, 3) := by decide +kernel
theorem dX8_isSet_149 : decode cX8_isSet 149 = .ok (.iconst 1, 1) := by decide +kernel
theorem dX8_isSet_150 : decode cX8_isSet 150 = .ok (.iadd, 1) := by decide +kernel
theorem dX8_isSet_151 : decode cX8_isSet 151 = .ok (.putfield 60, 3) := by decide +kernel
theorem dX8_isSet_154 : decode cX8_isSet 154 = .ok (.iinc 4 1, 3) := by decide +kernel
theorem dX8_isSet_157 : decode cX8_isSet 157 = .ok (.goto (-45), 3) := by decide +kernel
theorem dX8_isSet_160 : decode cX8_isSet 160 = .ok (.iconst 1, 1) := by decide +kernel
theorem dX8_isSet_161 : decode cX8_isSet 161 = .ok (.ireturn, 1) := by decide +kernel
theorem dX8_goes_0 : decode cX8_goes 0 = .ok (.aload_n 0, 1) := by decide +kernel
theorem dX8_goes_1 : decode cX8_goes 1 = .ok (.iconst 0, 1) := by decide +kernel
theorem dX8_goes_2 : decode cX8_goes 2 = .ok (.putfield 69, 3) := by decide +kernel
theorem dX8_goes_5 : decode cX8_goes 5 = .ok (.aload_n 0, 1) := by decide +kernel
theorem dX8_goes_6 : decode cX8_goes 6 = .ok (.iconst 0, 1) := by decide +kernel
theorem dX8_goes_7 : decode cX8_goes 7 = .ok (.putfield 72, 3) := by decide +kernel
theorem dX8_goes_10 : decode cX8_goes 10 = .ok (.iconst 0, 1) := by decide +kernel
theorem dX8_goes_11 : decode cX8_goes 11 = .ok (.istore_n 1, 1) := by decide +kernel
theorem dX8_goes_12 : decode cX8_goes 12 = .ok (.iload_n 1, 1) := by decide +kernel
theorem dX8_goes_13 : decode cX8_goes 13 = .ok (.aload_n 0, 1) := by decide +kernel
theorem dX8_goes_14 : decode cX8_goes 14 = .ok (.getfield 60, 3) := by decide +kernel
theorem dX8_goes_17 : decode cX8_goes 17 = .ok (.if_icmp .ge 88, 3) := by decide +kernel
theorem dX8_goes_20 : decode cX8_goes 20 = .ok (.aload_n 0, 1) := by decide +kernel
theorem dX8_goes_21 : decode cX8_goes 21 = .ok (.aload_n 0, 1) := by decide +kernel
theorem dX8_goes_22 : decode cX8_goes 22 = .ok (.getfield 54, 3) := by decide +kernel
theorem dX8_goes_25 : decode cX8_goes 25 = .ok (.iload_n 1, 1) := by decide +kernel
theorem dX8_goes_26 : decode cX8_goes 26 = .ok (.iaload, 1) := by decide +kernel
theorem dX8_goes_27 : decode cX8_goes 27 = .ok (.invokevirtual 210, 3) := by decide +kernel
theorem dX8_goes_30 : decode cX8_goes 30 = .ok (.istore_n 2, 1) := by decide +kernel
theorem dX8_goes_31 : decode cX8_goes 31 = .ok (.iload_n 2, 1) := by decide +kernel
theorem dX8_goes_32 : decode cX8_goes 32 = .ok (.ifCond .ge 5, 3) := by decide +kernel
theorem dX8_goes_35 : decode cX8_goes 35 = .ok (.iconst 0, 1) := by decide +kernel
theorem dX8_goes_36 : decode cX8_goes 36 = .ok (.ireturn, 1) := by decide +kernel
theorem dX8_goes_37 : decode cX8_goes 37 = .ok (.aload_n 0, 1) := by decide +kernel
theorem dX8_goes_38 : decode cX8_goes 38 = .ok (.dup, 1) := by decide +kernel
theorem dX8_goes_39 : decode cX8_goes 39 = .ok (.getfield 69, 3) := by decide +kernel
theorem dX8_goes_42 : decode cX8_goes 42 = .ok (.iload_n 2, 1) := by decide +kernel
theorem dX8_goes_43 : decode cX8_goes 43 = .ok (.iadd, 1) := by decide +kernel
theorem dX8_goes_44 : decode cX8_goes 44 = .ok (.putfield 69, 3) := by decide +kernel
theorem dX8_goes_47 : decode cX8_goes 47 = .ok (.aload_n 0, 1) := by decide +kernel
theorem dX8_goes_48 : decode cX8_goes 48 = .ok (.getfield 13, 3) := by decide +kernel
theorem dX8_goes_51 : decode cX8_goes 51 = .ok (.bipush 6, 2) := by decide +kernel
theorem dX8_goes_53 : decode cX8_goes 53 = .ok (.iaload, 1) := by decide +kernel
theorem dX8_goes_54 : decode cX8_goes 54 = .ok (.iload_n 2, 1) := by decide +kernel
theorem dX8_goes_55 : decode cX8_goes 55 = .ok (.isub, 1) := by decide +kernel
theorem dX8_goes_56 : decode cX8_goes 56 = .ok (.istore_n 3, 1) := by decide +kernel
theorem dX8_goes_57 : decode cX8_goes 57 = .ok (.iload_n 3, 1) := by decide +kernel
theorem dX8_goes_58 : decode cX8_goes 58 = .ok (.aload_n 0, 1) := by decide +kernel
theorem dX8_goes_59 : decode cX8_goes 59 = .ok (.getfield 13, 3) := by decide +kernel
theorem dX8_goes_62 : decode cX8_goes 62 = .ok (.bipush 6, 2) := by decide +kernel
theorem dX8_goes_64 : decode cX8_goes 64 = .ok (.iaload, 1) := by decide +kernel
theorem dX8_goes_65 : decode cX8_goes 65 = .ok (.if_icmp .ge 34, 3) := by decide +kernel
theorem dX8_goes_68 : decode cX8_goes 68 = .ok (.aload_n 0, 1) := by decide +kernel
theorem dX8_goes_69 : decode cX8_goes 69 = .ok (.aload_n 0, 1) := by decide +kernel
theorem dX8_goes_70 : decode cX8_goes 70 = .ok (.getfield 72, 3) := by decide +kernel
theorem dX8_goes_73 : decode cX8_goes 73 = .ok (.aload_n 0, 1) := by decide +kernel
theorem dX8_goes_74 : decode cX8_goes 74 = .ok (.getfield 13, 3) := by decide +kernel
theorem dX8_goes_77 : decode cX8_goes 77 = .ok (.sipush 299, 3) := by decide +kernel
theorem dX8_goes_80 : decode cX8_goes 80 = .ok (.iconst 5, 1) := by decide +kernel
theorem dX8_goes_81 : decode cX8_goes 81 = .ok (.iload_n 3, 1) := by decide +kernel
theorem dX8_goes_82 : decode cX8_goes 82 = .ok (.imul, 1) := by decide +kernel
theorem dX8_goes_83 : decode cX8_goes 83 = .ok (.iadd, 1) := by decide +kernel
theorem dX8_goes_84 : decode cX8_goes 84 = .ok (.iconst 4, 1) := by decide +kernel
theorem dX8_goes_85 : decode cX8_goes 85 = .ok (.iadd, 1) := by decide +kernel
theorem dX8_goes_86 : decode cX8_goes 86 = .ok (.iaload, 1) := by decide +kernel
theorem dX8_goes_87 : decode cX8_goes 87 = .ok (.invokestatic 143, 3) := by decide +kernel
theorem dX8_goes_90 : decode cX8_goes 90 = .ok (.putfield 72, 3) := by decide +kernel
theorem dX8_goes_93 : decode cX8_goes 93 = .ok (.iinc 3 1, 3) := by decide +kernel
theorem dX8_goes_96 : decode cX8_goes 96 = .ok (.goto (-39), 3) := by decide +kernel
theorem dX8_goes_99 : decode cX8_goes 99 = .ok (.iinc 1 1, 3) := by decide +kernel
theorem dX8_goes_102 : decode cX8_goes 102 = .ok (.goto (-90), 3) := by decide +kernel
theorem dX8_goes_105 : decode cX8_goes 105 = .ok (.iconst 1, 1) := by decide +kernel
theorem dX8_goes_106 : decode cX8_goes 106 = .ok (.ireturn, 1) := by decide +kernel
theorem dX8_tries_0 : decode cX8_tries 0 = .ok (.iconst 0, 1) := by decide +kernel
theorem dX8_tries_1 : decode cX8_tries 1 = .ok (.istore_n 2, 1) := by decide +kernel
theorem dX8_tries_2 : decode cX8_tries 2 = .ok (.iload_n 2, 1) := by decide +kernel
theorem dX8_tries_3 : decode cX8_tries 3 = .ok (.aload_n 0, 1) := by decide +kernel
theorem dX8_tries_4 : decode cX8_tries 4 = .ok (.getfield 60, 3) := by decide +kernel
theorem dX8_tries_7 : decode cX8_tries 7 = .ok (.if_icmp .ge 93, 3) := by decide +kernel
theorem dX8_tries_10 : decode cX8_tries 10 = .ok (.iconst 1, 1) := by decide +kernel
theorem dX8_tries_11 : decode cX8_tries 11 = .ok (.istore_n 3, 1) := by decide +kernel
theorem dX8_tries_12 : decode cX8_tries 12 = .ok (.iconst 0, 1) := by decide +kernel
theorem dX8_tries_13 : decode cX8_tries 13 = .ok (.istore 4, 2) := by decide +kernel
theorem dX8_tries_15 : decode cX8_tries 15 = .ok (.iload 4, 2) := by decide +kernel
theorem dX8_tries_17 : decode cX8_tries 17 = .ok (.iload_n 1, 1) := by decide +kernel
theorem dX8_tries_18 : decode cX8_tries 18 = .ok (.if_icmp .ge 33, 3) := by decide +kernel
theorem dX8_tries_21 : decode cX8_tries 21 = .ok (.iload_n 3, 1) := by decide +kernel
theorem dX8_tries_22 : decode cX8_tries 22 = .ok (.aload_n 0, 1) := by decide +kernel
theorem dX8_tries_23 : decode cX8_tries 23 = .ok (.getfield 54, 3) := by decide +kernel
theorem dX8_tries_26 : decode cX8_tries 26 = .ok (.iload 4, 2) := by decide +kernel
theorem dX8_tries_28 : decode cX8_tries 28 = .ok (.iaload, 1) := by decide +kernel
theorem dX8_tries_29 : decode cX8_tries 29 = .ok (.aload_n 0, 1) := by decide +kernel
theorem dX8_tries_30 : decode cX8_tries 30 = .ok (.getfield 51, 3) := by decide +kernel
theorem dX8_tries_33 : decode cX8_tries 33 = .ok (.iload_n 2, 1) := by decide +kernel
theorem dX8_tries_34 : decode cX8_tries 34 = .ok (.iaload, 1) := by decide +kernel
theorem dX8_tries_35 : decode cX8_tries 35 = .ok (.if_icmp .eq 7, 3) := by decide +kernel
theorem dX8_tries_38 : decode cX8_tries 38 = .ok (.iconst 1, 1) := by decide +kernel
theorem dX8_tries_39 : decode cX8_tries 39 = .ok (.goto 4, 3) := by decide +kernel
theorem dX8_tries_42 : decode cX8_tries 42 = .ok (.iconst 0, 1) := by decide +kernel
theorem dX8_tries_43 : decode cX8_tries 43 = .ok (.iand, 1) := by decide +kernel
theorem dX8_tries_44 : decode cX8_tries 44 = .ok (.istore_n 3, 1) := by decide +kernel
theorem dX8_tries_45 : decode cX8_tries 45 = .ok (.iinc 4 1, 3) := by decide +kernel
theorem dX8_tries_48 : decode cX8_tries 48 = .ok (.goto (-33), 3) := by decide +kernel
theorem dX8_tries_51 : decode cX8_tries 51 = .ok (.iload_n 3, 1) := by decide +kernel
theorem dX8_tries_52 : decode cX8_tries 52 = .ok (.ifCond .ne 6, 3) := by decide +kernel
theorem dX8_tries_55 : decode cX8_tries 55 = .ok (.goto 39, 3) := by decide +kernel
theorem dX8_tries_58 : decode cX8_tries 58 = .ok (.aload_n 0, 1) := by decide +kernel
theorem dX8_tries_59 : decode cX8_tries 59 = .ok (.getfield 54, 3) := by decide +kernel
theorem dX8_tries_62 : decode cX8_tries 62 = .ok (.iload_n 1, 1) := by decide +kernel
theorem dX8_tries_63 : decode cX8_tries 63 = .ok (.aload_n 0, 1) := by decide +kernel
theorem dX8_tries_64 : decode cX8_tries 64 = .ok (.getfield 51, 3) := by decide +kernel
theorem dX8_tries_67 : decode cX8_tries 67 = .ok (.iload_n 2, 1) := by decide +kernel
theorem dX8_tries_68 : decode cX8_tries 68 = .ok (.iaload, 1) := by decide +kernel
theorem dX8_tries_69 : decode cX8_tries 69 = .ok (.iastore, 1) := by decide +kernel
theorem dX8_tries_70 : decode cX8_tries 70 = .ok (.iload_n 1, 1) := by decide +kernel
theorem dX8_tries_71 : decode cX8_tries 71 = .ok (.iconst 1, 1) := by decide +kernel
theorem dX8_tries_72 : decode cX8_tries 72 = .ok (.iadd, 1) := by decide +kernel
theorem dX8_tries_73 : decode cX8_tries 73 = .ok (.aload_n 0, 1) := by decide +kernel
theorem dX8_tries_74 : decode cX8_tries 74 = .ok (.getfield 60, 3) := by decide +kernel
theorem dX8_tries_77 : decode cX8_tries 77 = .ok (.if_icmp .ge 13, 3) := by decide +kernel
theorem dX8_tries_80 : decode cX8_tries 80 = .ok (.aload_n 0, 1) := by decide +kernel
theorem dX8_tries_81 : decode cX8_tries 81 = .ok (.iload_n 1, 1) := by decide +kernel
theorem dX8_tries_82 : decode cX8_tries 82 = .ok (.iconst 1, 1) := by decide +kernel
theorem dX8_tries_83 : decode cX8_tries 83 = .ok (.iadd, 1) := by decide +kernel
theorem dX8_tries_84 : decode cX8_tries 84 = .ok (.invokevirtual 241, 3) := by decide +kernel
theorem dX8_tries_87 : decode cX8_tries 87 = .ok (.goto 7, 3) := by decide +kernel
theorem dX8_tries_90 : decode cX8_tries 90 = .ok (.aload_n 0, 1) := by decide +kernel
theorem dX8_tries_91 : decode cX8_tries 91 = .ok (.invokevirtual 244, 3) := by decide +kernel
theorem dX8_tries_94 : decode cX8_tries 94 = .ok (.iinc 2 1, 3) := by decide +kernel
theorem dX8_tries_97 : decode cX8_tries 97 = .ok (.goto (-95), 3) := by decide +kernel
theorem dX8_tries_100 : decode cX8_tries 100 = .ok (.return_, 1) := by decide +kernel
theorem dX8_triesRow_0 : decode cX8_triesRow 0 = .ok (.aload_n 0, 1) := by decide +kernel
theorem dX8_triesRow_1 : decode cX8_triesRow 1 = .ok (.getfield 13, 3) := by decide +kernel
theorem dX8_triesRow_4 : decode cX8_triesRow 4 = .ok (.iconst 0, 1) := by decide +kernel
theorem dX8_triesRow_5 : decode cX8_triesRow 5 = .ok (.aload_n 0, 1) := by decide +kernel
theorem dX8_triesRow_6 : decode cX8_triesRow 6 = .ok (.getfield 20, 3) := by decide +kernel
theorem dX8_triesRow_9 : decode cX8_triesRow 9 = .ok (.iconst 0, 1) := by decide +kernel
theorem dX8_triesRow_10 : decode cX8_triesRow 10 = .ok (.invokestatic 93, 3) := by decide +kernel
theorem dX8_triesRow_13 : decode cX8_triesRow 13 = .ok (.aload_n 0, 1) := by decide +kernel
theorem dX8_triesRow_14 : decode cX8_triesRow 14 = .ok (.invokevirtual 247, 3) := by decide +kernel
theorem dX8_triesRow_17 : decode cX8_triesRow 17 = .ok (.istore_n 1, 1) := by decide +kernel
theorem dX8_triesRow_18 : decode cX8_triesRow 18 = .ok (.aload_n 0, 1) := by decide +kernel
theorem dX8_triesRow_19 : decode cX8_triesRow 19 = .ok (.getfield 20, 3) := by decide +kernel
theorem dX8_triesRow_22 : decode cX8_triesRow 22 = .ok (.iconst 0, 1) := by decide +kernel
theorem dX8_triesRow_23 : decode cX8_triesRow 23 = .ok (.aload_n 0, 1) := by decide +kernel
theorem dX8_triesRow_24 : decode cX8_triesRow 24 = .ok (.getfield 13, 3) := by decide +kernel
theorem dX8_triesRow_27 : decode cX8_triesRow 27 = .ok (.iconst 0, 1) := by decide +kernel
theorem dX8_triesRow_28 : decode cX8_triesRow 28 = .ok (.invokestatic 93, 3) := by decide +kernel
theorem dX8_triesRow_31 : decode cX8_triesRow 31 = .ok (.iload_n 1, 1) := by decide +kernel
theorem dX8_triesRow_32 : decode cX8_triesRow 32 = .ok (.ifCond .eq 43, 3) := by decide +kernel
theorem dX8_triesRow_35 : decode cX8_triesRow 35 = .ok (.aload_n 0, 1) := by decide +kernel
theorem dX8_triesRow_36 : decode cX8_triesRow 36 = .ok (.getfield 63, 3) := by decide +kernel
theorem dX8_triesRow_39 : decode cX8_triesRow 39 = .ok (.ifCond .le 37, 3) := by decide +kernel
theorem dX8_triesRow_42 : decode cX8_triesRow 42 = .ok (.aload_n 0, 1) := by decide +kernel
theorem dX8_triesRow_43 : decode cX8_triesRow 43 = .ok (.getfield 69, 3) := by decide +kernel
theorem dX8_triesRow_46 : decode cX8_triesRow 46 = .ok (.aload_n 0, 1) := by decide +kernel
theorem dX8_triesRow_47 : decode cX8_triesRow 47 = .ok (.getfield 63, 3) := by decide +kernel
theorem dX8_triesRow_50 : decode cX8_triesRow 50 = .ok (.if_icmp .gt 25, 3) := by decide +kernel
theorem dX8_triesRow_53 : decode cX8_triesRow 53 = .ok (.aload_n 0, 1) := by decide +kernel
theorem dX8_triesRow_54 : decode cX8_triesRow 54 = .ok (.getfield 69, 3) := by decide +kernel
theorem dX8_triesRow_57 : decode cX8_triesRow 57 = .ok (.aload_n 0, 1) := by decide +kernel
theorem dX8_triesRow_58 : decode cX8_triesRow 58 = .ok (.getfield 63, 3) := by decide +kernel
theorem dX8_triesRow_61 : decode cX8_triesRow 61 = .ok (.if_icmp .ne 15, 3) := by decide +kernel
theorem dX8_triesRow_64 : decode cX8_triesRow 64 = .ok (.aload_n 0, 1) := by decide +kernel
theorem dX8_triesRow_65 : decode cX8_triesRow 65 = .ok (.getfield 72, 3) := by decide +kernel
theorem dX8_triesRow_68 : decode cX8_triesRow 68 = .ok (.aload_n 0, 1) := by decide +kernel
theorem dX8_triesRow_69 : decode cX8_triesRow 69 = .ok (.getfield 66, 3) := by decide +kernel
theorem dX8_triesRow_72 : decode cX8_triesRow 72 = .ok (.if_icmp .lt 4, 3) := by decide +kernel
theorem dX8_triesRow_75 : decode cX8_triesRow 75 = .ok (.return_, 1) := by decide +kernel
theorem dX8_triesRow_76 : decode cX8_triesRow 76 = .ok (.aload_n 0, 1) := by decide +kernel
theorem dX8_triesRow_77 : decode cX8_triesRow 77 = .ok (.aload_n 0, 1) := by decide +kernel
theorem dX8_triesRow_78 : decode cX8_triesRow 78 = .ok (.getfield 69, 3) := by decide +kernel
theorem dX8_triesRow_81 : decode cX8_triesRow 81 = .ok (.putfield 63, 3) := by decide +kernel
theorem dX8_triesRow_84 : decode cX8_triesRow 84 = .ok (.aload_n 0, 1) := by decide +kernel
theorem dX8_triesRow_85 : decode cX8_triesRow 85 = .ok (.aload_n 0, 1) := by decide +kernel
theorem dX8_triesRow_86 : decode cX8_triesRow 86 = .ok (.getfield 72, 3) := by decide +kernel
theorem dX8_triesRow_89 : decode cX8_triesRow 89 = .ok (.putfield 66, 3) := by decide +kernel
theorem dX8_triesRow_92 : decode cX8_triesRow 92 = .ok (.iconst 0, 1) := by decide +kernel
theorem dX8_triesRow_93 : decode cX8_triesRow 93 = .ok (.istore_n 2, 1) := by decide +kernel
theorem dX8_triesRow_94 : decode cX8_triesRow 94 = .ok (.iload_n 2, 1) := by decide +kernel
theorem dX8_triesRow_95 : decode cX8_triesRow 95 = .ok (.aload_n 0, 1) := by decide +kernel
theorem dX8_triesRow_96 : decode cX8_triesRow 96 = .ok (.getfield 60, 3) := by decide +kernel
theorem dX8_triesRow_99 : decode cX8_triesRow 99 = .ok (.if_icmp .ge 21, 3) := by decide +kernel
theorem dX8_triesRow_102 : decode cX8_triesRow 102 = .ok (.aload_n 0, 1) := by decide +kernel
theorem dX8_triesRow_103 : decode cX8_triesRow 103 = .ok (.getfield 57, 3) := by decide +kernel
theorem dX8_triesRow_106 : decode cX8_triesRow 106 = .ok (.iload_n 2, 1) := by decide +kernel
theorem dX8_triesRow_107 : decode cX8_triesRow 107 = .ok (.aload_n 0, 1) := by decide +kernel
theorem dX8_triesRow_108 : decode cX8_triesRow 108 = .ok (.getfield 54, 3) := by decide +kernel
theorem dX8_triesRow_111 : decode cX8_triesRow 111 = .ok (.iload_n 2, 1) := by decide +kernel
theorem dX8_triesRow_112 : decode cX8_triesRow 112 = .ok (.iaload, 1) := by decide +kernel
theorem dX8_triesRow_113 : decode cX8_triesRow 113 = .ok (.iastore, 1) := by decide +kernel
theorem dX8_triesRow_114 : decode cX8_triesRow 114 = .ok (.iinc 2 1, 3) := by decide +kernel
theorem dX8_triesRow_117 : decode cX8_triesRow 117 = .ok (.goto (-23), 3) := by decide +kernel
theorem dX8_triesRow_120 : decode cX8_triesRow 120 = .ok (.return_, 1) := by decide +kernel
theorem dX8_isFound_0 : decode cX8_isFound 0 = .ok (.aload_n 0, 1) := by decide +kernel
theorem dX8_isFound_1 : decode cX8_isFound 1 = .ok (.iconst 0, 1) := by decide +kernel
theorem dX8_isFound_2 : decode cX8_isFound 2 = .ok (.putfield 63, 3) := by decide +kernel
theorem dX8_isFound_5 : decode cX8_isFound 5 = .ok (.aload_n 0, 1) := by decide +kernel
theorem dX8_isFound_6 : decode cX8_isFound 6 = .ok (.iconst 0, 1) := by decide +kernel
theorem dX8_isFound_7 : decode cX8_isFound 7 = .ok (.invokevirtual 241, 3) := by decide +kernel
theorem dX8_isFound_10 : decode cX8_isFound 10 = .ok (.aload_n 0, 1) := by decide +kernel
theorem dX8_isFound_11 : decode cX8_isFound 11 = .ok (.getfield 63, 3) := by decide +kernel
theorem dX8_isFound_14 : decode cX8_isFound 14 = .ok (.ifCond .le 7, 3) := by decide +kernel
theorem dX8_isFound_17 : decode cX8_isFound 17 = .ok (.iconst 1, 1) := by decide +kernel
theorem dX8_isFound_18 : decode cX8_isFound 18 = .ok (.goto 4, 3) := by decide +kernel
theorem dX8_isFound_21 : decode cX8_isFound 21 = .ok (.iconst 0, 1) := by decide +kernel
theorem dX8_isFound_22 : decode cX8_isFound 22 = .ok (.ireturn, 1) := by decide +kernel
theorem dX8_bestMoves_0 : decode cX8_bestMoves 0 = .ok (.aload_n 0, 1) := by decide +kernel
theorem dX8_bestMoves_1 : decode cX8_bestMoves 1 = .ok (.lload_n 1, 1) := by decide +kernel
theorem dX8_bestMoves_2 : decode cX8_bestMoves 2 = .ok (.invokevirtual 251, 3) := by decide +kernel
theorem dX8_bestMoves_5 : decode cX8_bestMoves 5 = .ok (.ifCond .ne 5, 3) := by decide +kernel
theorem dX8_bestMoves_8 : decode cX8_bestMoves 8 = .ok (.iconst 0, 1) := by decide +kernel
theorem dX8_bestMoves_9 : decode cX8_bestMoves 9 = .ok (.ireturn, 1) := by decide +kernel
theorem dX8_bestMoves_10 : decode cX8_bestMoves 10 = .ok (.aload_n 0, 1) := by decide +kernel
theorem dX8_bestMoves_11 : decode cX8_bestMoves 11 = .ok (.invokevirtual 255, 3) := by decide +kernel
theorem dX8_bestMoves_14 : decode cX8_bestMoves 14 = .ok (.ifCond .eq 10, 3) := by decide +kernel
theorem dX8_bestMoves_17 : decode cX8_bestMoves 17 = .ok (.aload_n 0, 1) := by decide +kernel
theorem dX8_bestMoves_18 : decode cX8_bestMoves 18 = .ok (.getfield 63, 3) := by decide +kernel
theorem dX8_bestMoves_21 : decode cX8_bestMoves 21 = .ok (.goto 8, 3) := by decide +kernel
theorem dX8_bestMoves_24 : decode cX8_bestMoves 24 = .ok (.aload_n 0, 1) := by decide +kernel
theorem dX8_bestMoves_25 : decode cX8_bestMoves 25 = .ok (.iconst 3, 1) := by decide +kernel
theorem dX8_bestMoves_26 : decode cX8_bestMoves 26 = .ok (.invokevirtual 177, 3) := by decide +kernel
theorem dX8_bestMoves_29 : decode cX8_bestMoves 29 = .ok (.ireturn, 1) := by decide +kernel
theorem dX8_bestEnd_0 : decode cX8_bestEnd 0 = .ok (.aload_n 0, 1) := by decide +kernel
theorem dX8_bestEnd_1 : decode cX8_bestEnd 1 = .ok (.lload_n 1, 1) := by decide +kernel
theorem dX8_bestEnd_2 : decode cX8_bestEnd 2 = .ok (.invokevirtual 251, 3) := by decide +kernel
theorem dX8_bestEnd_5 : decode cX8_bestEnd 5 = .ok (.ifCond .ne 5, 3) := by decide +kernel
theorem dX8_bestEnd_8 : decode cX8_bestEnd 8 = .ok (.iconst 0, 1) := by decide +kernel
theorem dX8_bestEnd_9 : decode cX8_bestEnd 9 = .ok (.ireturn, 1) := by decide +kernel
theorem dX8_bestEnd_10 : decode cX8_bestEnd 10 = .ok (.aload_n 0, 1) := by decide +kernel
theorem dX8_bestEnd_11 : decode cX8_bestEnd 11 = .ok (.invokevirtual 255, 3) := by decide +kernel
theorem dX8_bestEnd_14 : decode cX8_bestEnd 14 = .ok (.ifCond .eq 10, 3) := by decide +kernel
theorem dX8_bestEnd_17 : decode cX8_bestEnd 17 = .ok (.aload_n 0, 1) := by decide +kernel
theorem dX8_bestEnd_18 : decode cX8_bestEnd 18 = .ok (.getfield 66, 3) := by decide +kernel
theorem dX8_bestEnd_21 : decode cX8_bestEnd 21 = .ok (.goto 8, 3) := by decide +kernel
theorem dX8_bestEnd_24 : decode cX8_bestEnd 24 = .ok (.aload_n 0, 1) := by decide +kernel
theorem dX8_bestEnd_25 : decode cX8_bestEnd 25 = .ok (.iconst 3, 1) := by decide +kernel
theorem dX8_bestEnd_26 : decode cX8_bestEnd 26 = .ok (.invokevirtual 177, 3) := by decide +kernel
theorem dX8_bestEnd_29 : decode cX8_bestEnd 29 = .ok (.ireturn, 1) := by decide +kernel
theorem dX8_bestCar_0 : decode cX8_bestCar 0 = .ok (.aload_n 0, 1) := by decide +kernel
theorem dX8_bestCar_1 : decode cX8_bestCar 1 = .ok (.lload_n 1, 1) := by decide +kernel
theorem dX8_bestCar_2 : decode cX8_bestCar 2 = .ok (.invokevirtual 251, 3) := by decide +kernel
theorem dX8_bestCar_5 : decode cX8_bestCar 5 = .ok (.ifCond .ne 5, 3) := by decide +kernel
theorem dX8_bestCar_8 : decode cX8_bestCar 8 = .ok (.iconst 0, 1) := by decide +kernel
theorem dX8_bestCar_9 : decode cX8_bestCar 9 = .ok (.ireturn, 1) := by decide +kernel
theorem dX8_bestCar_10 : decode cX8_bestCar 10 = .ok (.iload_n 3, 1) := by decide +kernel
theorem dX8_bestCar_11 : decode cX8_bestCar 11 = .ok (.iconst 0, 1) := by decide +kernel
theorem dX8_bestCar_12 : decode cX8_bestCar 12 = .ok (.aload_n 0, 1) := by decide +kernel
theorem dX8_bestCar_13 : decode cX8_bestCar 13 = .ok (.getfield 60, 3) := by decide +kernel
theorem dX8_bestCar_16 : decode cX8_bestCar 16 = .ok (.iconst 1, 1) := by decide +kernel
theorem dX8_bestCar_17 : decode cX8_bestCar 17 = .ok (.isub, 1) := by decide +kernel
theorem dX8_bestCar_18 : decode cX8_bestCar 18 = .ok (.invokestatic 112, 3) := by decide +kernel
theorem dX8_bestCar_21 : decode cX8_bestCar 21 = .ok (.ifCond .ne 9, 3) := by decide +kernel
theorem dX8_bestCar_24 : decode cX8_bestCar 24 = .ok (.aload_n 0, 1) := by decide +kernel
theorem dX8_bestCar_25 : decode cX8_bestCar 25 = .ok (.iconst 2, 1) := by decide +kernel
theorem dX8_bestCar_26 : decode cX8_bestCar 26 = .ok (.invokevirtual 177, 3) := by decide +kernel
theorem dX8_bestCar_29 : decode cX8_bestCar 29 = .ok (.ireturn, 1) := by decide +kernel
theorem dX8_bestCar_30 : decode cX8_bestCar 30 = .ok (.aload_n 0, 1) := by decide +kernel
theorem dX8_bestCar_31 : decode cX8_bestCar 31 = .ok (.invokevirtual 255, 3) := by decide +kernel
theorem dX8_bestCar_34 : decode cX8_bestCar 34 = .ok (.ifCond .eq 12, 3) := by decide +kernel
theorem dX8_bestCar_37 : decode cX8_bestCar 37 = .ok (.aload_n 0, 1) := by decide +kernel
theorem dX8_bestCar_38 : decode cX8_bestCar 38 = .ok (.getfield 57, 3) := by decide +kernel
theorem dX8_bestCar_41 : decode cX8_bestCar 41 = .ok (.iload_n 3, 1) := by decide +kernel
theorem dX8_bestCar_42 : decode cX8_bestCar 42 = .ok (.iaload, 1) := by decide +kernel
theorem dX8_bestCar_43 : decode cX8_bestCar 43 = .ok (.goto 8, 3) := by decide +kernel
theorem dX8_bestCar_46 : decode cX8_bestCar 46 = .ok (.aload_n 0, 1) := by decide +kernel
theorem dX8_bestCar_47 : decode cX8_bestCar 47 = .ok (.iconst 3, 1) := by decide +kernel
theorem dX8_bestCar_48 : decode cX8_bestCar 48 = .ok (.invokevirtual 177, 3) := by decide +kernel
theorem dX8_bestCar_51 : decode cX8_bestCar 51 = .ok (.ireturn, 1) := by decide +kernel
theorem dX8_plainMoves_0 : decode cX8_plainMoves 0 = .ok (.aload_n 0, 1) := by decide +kernel
theorem dX8_plainMoves_1 : decode cX8_plainMoves 1 = .ok (.lload_n 1, 1) := by decide +kernel
theorem dX8_plainMoves_2 : decode cX8_plainMoves 2 = .ok (.invokevirtual 251, 3) := by decide +kernel
theorem dX8_plainMoves_5 : decode cX8_plainMoves 5 = .ok (.ifCond .ne 5, 3) := by decide +kernel
theorem dX8_plainMoves_8 : decode cX8_plainMoves 8 = .ok (.iconst 0, 1) := by decide +kernel
theorem dX8_plainMoves_9 : decode cX8_plainMoves 9 = .ok (.ireturn, 1) := by decide +kernel
theorem dX8_plainMoves_10 : decode cX8_plainMoves 10 = .ok (.iconst 0, 1) := by decide +kernel
theorem dX8_plainMoves_11 : decode cX8_plainMoves 11 = .ok (.istore_n 3, 1) := by decide +kernel
theorem dX8_plainMoves_12 : decode cX8_plainMoves 12 = .ok (.iload_n 3, 1) := by decide +kernel
theorem dX8_plainMoves_13 : decode cX8_plainMoves 13 = .ok (.aload_n 0, 1) := by decide +kernel
theorem dX8_plainMoves_14 : decode cX8_plainMoves 14 = .ok (.getfield 60, 3) := by decide +kernel
theorem dX8_plainMoves_17 : decode cX8_plainMoves 17 = .ok (.if_icmp .ge 78, 3) := by decide +kernel
theorem dX8_plainMoves_20 : decode cX8_plainMoves 20 = .ok (.iload_n 3, 1) := by decide +kernel
theorem dX8_plainMoves_21 : decode cX8_plainMoves 21 = .ok (.istore 4, 2) := by decide +kernel
theorem dX8_plainMoves_23 : decode cX8_plainMoves 23 = .ok (.iload 4, 2) := by decide +kernel
theorem dX8_plainMoves_25 : decode cX8_plainMoves 25 = .ok (.ifCond .le 51, 3) := by decide +kernel
theorem dX8_plainMoves_28 : decode cX8_plainMoves 28 = .ok (.aload_n 0, 1) := by decide +kernel
theorem dX8_plainMoves_29 : decode cX8_plainMoves 29 = .ok (.aload_n 0, 1) := by decide +kernel
theorem dX8_plainMoves_30 : decode cX8_plainMoves 30 = .ok (.getfield 51, 3) := by decide +kernel
theorem dX8_plainMoves_33 : decode cX8_plainMoves 33 = .ok (.iload_n 3, 1) := by decide +kernel
theorem dX8_plainMoves_34 : decode cX8_plainMoves 34 = .ok (.iaload, 1) := by decide +kernel
theorem dX8_plainMoves_35 : decode cX8_plainMoves 35 = .ok (.invokevirtual 119, 3) := by decide +kernel
theorem dX8_plainMoves_38 : decode cX8_plainMoves 38 = .ok (.aload_n 0, 1) := by decide +kernel
theorem dX8_plainMoves_39 : decode cX8_plainMoves 39 = .ok (.aload_n 0, 1) := by decide +kernel
theorem dX8_plainMoves_40 : decode cX8_plainMoves 40 = .ok (.getfield 54, 3) := by decide +kernel
theorem dX8_plainMoves_43 : decode cX8_plainMoves 43 = .ok (.iload 4, 2) := by decide +kernel
theorem dX8_plainMoves_45 : decode cX8_plainMoves 45 = .ok (.iconst 1, 1) := by decide +kernel
theorem dX8_plainMoves_46 : decode cX8_plainMoves 46 = .ok (.isub, 1) := by decide +kernel
theorem dX8_plainMoves_47 : decode cX8_plainMoves 47 = .ok (.iaload, 1) := by decide +kernel
theorem dX8_plainMoves_48 : decode cX8_plainMoves 48 = .ok (.invokevirtual 119, 3) := by decide +kernel
theorem dX8_plainMoves_51 : decode cX8_plainMoves 51 = .ok (.if_icmp .ge 25, 3) := by decide +kernel
theorem dX8_plainMoves_54 : decode cX8_plainMoves 54 = .ok (.aload_n 0, 1) := by decide +kernel
theorem dX8_plainMoves_55 : decode cX8_plainMoves 55 = .ok (.getfield 54, 3) := by decide +kernel
theorem dX8_plainMoves_58 : decode cX8_plainMoves 58 = .ok (.iload 4, 2) := by decide +kernel
theorem dX8_plainMoves_60 : decode cX8_plainMoves 60 = .ok (.aload_n 0, 1) := by decide +kernel
theorem dX8_plainMoves_61 : decode cX8_plainMoves 61 = .ok (.getfield 54, 3) := by decide +kernel
theorem dX8_plainMoves_64 : decode cX8_plainMoves 64 = .ok (.iload 4, 2) := by decide +kernel
theorem dX8_plainMoves_66 : decode cX8_plainMoves 66 = .ok (.iconst 1, 1) := by decide +kernel
theorem dX8_plainMoves_67 : decode cX8_plainMoves 67 = .ok (.isub, 1) := by decide +kernel
theorem dX8_plainMoves_68 : decode cX8_plainMoves 68 = .ok (.iaload, 1) := by decide +kernel
theorem dX8_plainMoves_69 : decode cX8_plainMoves 69 = .ok (.iastore, 1) := by decide +kernel
theorem dX8_plainMoves_70 : decode cX8_plainMoves 70 = .ok (.iinc 4 (-1), 3) := by decide +kernel
theorem dX8_plainMoves_73 : decode cX8_plainMoves 73 = .ok (.goto (-50), 3) := by decide +kernel
theorem dX8_plainMoves_76 : decode cX8_plainMoves 76 = .ok (.aload_n 0, 1) := by decide +kernel
theorem dX8_plainMoves_77 : decode cX8_plainMoves 77 = .ok (.getfield 54, 3) := by decide +kernel
theorem dX8_plainMoves_80 : decode cX8_plainMoves 80 = .ok (.iload 4, 2) := by decide +kernel
theorem dX8_plainMoves_82 : decode cX8_plainMoves 82 = .ok (.aload_n 0, 1) := by decide +kernel
theorem dX8_plainMoves_83 : decode cX8_plainMoves 83 = .ok (.getfield 51, 3) := by decide +kernel
theorem dX8_plainMoves_86 : decode cX8_plainMoves 86 = .ok (.iload_n 3, 1) := by decide +kernel
theorem dX8_plainMoves_87 : decode cX8_plainMoves 87 = .ok (.iaload, 1) := by decide +kernel
theorem dX8_plainMoves_88 : decode cX8_plainMoves 88 = .ok (.iastore, 1) := by decide +kernel
theorem dX8_plainMoves_89 : decode cX8_plainMoves 89 = .ok (.iinc 3 1, 3) := by decide +kernel
theorem dX8_plainMoves_92 : decode cX8_plainMoves 92 = .ok (.goto (-80), 3) := by decide +kernel
theorem dX8_plainMoves_95 : decode cX8_plainMoves 95 = .ok (.aload_n 0, 1) := by decide +kernel
theorem dX8_plainMoves_96 : decode cX8_plainMoves 96 = .ok (.getfield 13, 3) := by decide +kernel
theorem dX8_plainMoves_99 : decode cX8_plainMoves 99 = .ok (.iconst 0, 1) := by decide +kernel
theorem dX8_plainMoves_100 : decode cX8_plainMoves 100 = .ok (.aload_n 0, 1) := by decide +kernel
theorem dX8_plainMoves_101 : decode cX8_plainMoves 101 = .ok (.getfield 20, 3) := by decide +kernel
theorem dX8_plainMoves_104 : decode cX8_plainMoves 104 = .ok (.iconst 0, 1) := by decide +kernel
theorem dX8_plainMoves_105 : decode cX8_plainMoves 105 = .ok (.invokestatic 93, 3) := by decide +kernel
theorem dX8_plainMoves_108 : decode cX8_plainMoves 108 = .ok (.aload_n 0, 1) := by decide +kernel
theorem dX8_plainMoves_109 : decode cX8_plainMoves 109 = .ok (.invokevirtual 247, 3) := by decide +kernel
theorem dX8_plainMoves_112 : decode cX8_plainMoves 112 = .ok (.istore_n 3, 1) := by decide +kernel
theorem dX8_plainMoves_113 : decode cX8_plainMoves 113 = .ok (.aload_n 0, 1) := by decide +kernel
theorem dX8_plainMoves_114 : decode cX8_plainMoves 114 = .ok (.getfield 20, 3) := by decide +kernel
theorem dX8_plainMoves_117 : decode cX8_plainMoves 117 = .ok (.iconst 0, 1) := by decide +kernel
theorem dX8_plainMoves_118 : decode cX8_plainMoves 118 = .ok (.aload_n 0, 1) := by decide +kernel
theorem dX8_plainMoves_119 : decode cX8_plainMoves 119 = .ok (.getfield 13, 3) := by decide +kernel
theorem dX8_plainMoves_122 : decode cX8_plainMoves 122 = .ok (.iconst 0, 1) := by decide +kernel
theorem dX8_plainMoves_123 : decode cX8_plainMoves 123 = .ok (.invokestatic 93, 3) := by decide +kernel
theorem dX8_plainMoves_126 : decode cX8_plainMoves 126 = .ok (.iload_n 3, 1) := by decide +kernel
theorem dX8_plainMoves_127 : decode cX8_plainMoves 127 = .ok (.ifCond .eq 10, 3) := by decide +kernel
theorem dX8_plainMoves_130 : decode cX8_plainMoves 130 = .ok (.aload_n 0, 1) := by decide +kernel
theorem dX8_plainMoves_131 : decode cX8_plainMoves 131 = .ok (.getfield 69, 3) := by decide +kernel
theorem dX8_plainMoves_134 : decode cX8_plainMoves 134 = .ok (.goto 8, 3) := by decide +kernel
theorem dX8_plainMoves_137 : decode cX8_plainMoves 137 = .ok (.aload_n 0, 1) := by decide +kernel
theorem dX8_plainMoves_138 : decode cX8_plainMoves 138 = .ok (.iconst 3, 1) := by decide +kernel
theorem dX8_plainMoves_139 : decode cX8_plainMoves 139 = .ok (.invokevirtual 177, 3) := by decide +kernel
theorem dX8_plainMoves_142 : decode cX8_plainMoves 142 = .ok (.ireturn, 1) := by decide +kernel
theorem dX8_retrieveAll_0 : decode cX8_retrieveAll 0 = .ok (.aload_n 0, 1) := by decide +kernel
theorem dX8_retrieveAll_1 : decode cX8_retrieveAll 1 = .ok (.invokevirtual 188, 3) := by decide +kernel
theorem dX8_retrieveAll_4 : decode cX8_retrieveAll 4 = .ok (.aload_n 0, 1) := by decide +kernel
theorem dX8_retrieveAll_5 : decode cX8_retrieveAll 5 = .ok (.lload_n 1, 1) := by decide +kernel
theorem dX8_retrieveAll_6 : decode cX8_retrieveAll 6 = .ok (.invokevirtual 251, 3) := by decide +kernel
theorem dX8_retrieveAll_9 : decode cX8_retrieveAll 9 = .ok (.ifCond .ne 5, 3) := by decide +kernel
theorem dX8_retrieveAll_12 : decode cX8_retrieveAll 12 = .ok (.iconst 0, 1) := by decide +kernel
theorem dX8_retrieveAll_13 : decode cX8_retrieveAll 13 = .ok (.ireturn, 1) := by decide +kernel
theorem dX8_retrieveAll_14 : decode cX8_retrieveAll 14 = .ok (.aload_n 0, 1) := by decide +kernel
theorem dX8_retrieveAll_15 : decode cX8_retrieveAll 15 = .ok (.invokevirtual 255, 3) := by decide +kernel
theorem dX8_retrieveAll_18 : decode cX8_retrieveAll 18 = .ok (.ifCond .ne 9, 3) := by decide +kernel
theorem dX8_retrieveAll_21 : decode cX8_retrieveAll 21 = .ok (.aload_n 0, 1) := by decide +kernel
theorem dX8_retrieveAll_22 : decode cX8_retrieveAll 22 = .ok (.iconst 3, 1) := by decide +kernel
theorem dX8_retrieveAll_23 : decode cX8_retrieveAll 23 = .ok (.invokevirtual 177, 3) := by decide +kernel
theorem dX8_retrieveAll_26 : decode cX8_retrieveAll 26 = .ok (.ireturn, 1) := by decide +kernel
theorem dX8_retrieveAll_27 : decode cX8_retrieveAll 27 = .ok (.iconst 0, 1) := by decide +kernel
theorem dX8_retrieveAll_28 : decode cX8_retrieveAll 28 = .ok (.istore_n 3, 1) := by decide +kernel
theorem dX8_retrieveAll_29 : decode cX8_retrieveAll 29 = .ok (.iload_n 3, 1) := by decide +kernel
theorem dX8_retrieveAll_30 : decode cX8_retrieveAll 30 = .ok (.aload_n 0, 1) := by decide +kernel
theorem dX8_retrieveAll_31 : decode cX8_retrieveAll 31 = .ok (.getfield 60, 3) := by decide +kernel
theorem dX8_retrieveAll_34 : decode cX8_retrieveAll 34 = .ok (.if_icmp .ge 21, 3) := by decide +kernel
theorem dX8_retrieveAll_37 : decode cX8_retrieveAll 37 = .ok (.aload_n 0, 1) := by decide +kernel
theorem dX8_retrieveAll_38 : decode cX8_retrieveAll 38 = .ok (.getfield 54, 3) := by decide +kernel
theorem dX8_retrieveAll_41 : decode cX8_retrieveAll 41 = .ok (.iload_n 3, 1) := by decide +kernel
theorem dX8_retrieveAll_42 : decode cX8_retrieveAll 42 = .ok (.aload_n 0, 1) := by decide +kernel
theorem dX8_retrieveAll_43 : decode cX8_retrieveAll 43 = .ok (.getfield 57, 3) := by decide +kernel
theorem dX8_retrieveAll_46 : decode cX8_retrieveAll 46 = .ok (.iload_n 3, 1) := by decide +kernel
theorem dX8_retrieveAll_47 : decode cX8_retrieveAll 47 = .ok (.iaload, 1) := by decide +kernel
theorem dX8_retrieveAll_48 : decode cX8_retrieveAll 48 = .ok (.iastore, 1) := by decide +kernel
theorem dX8_retrieveAll_49 : decode cX8_retrieveAll 49 = .ok (.iinc 3 1, 3) := by decide +kernel
theorem dX8_retrieveAll_52 : decode cX8_retrieveAll 52 = .ok (.goto (-23), 3) := by decide +kernel
theorem dX8_retrieveAll_55 : decode cX8_retrieveAll 55 = .ok (.aload_n 0, 1) := by decide +kernel
theorem dX8_retrieveAll_56 : decode cX8_retrieveAll 56 = .ok (.invokevirtual 247, 3) := by decide +kernel
theorem dX8_retrieveAll_59 : decode cX8_retrieveAll 59 = .ok (.istore_n 3, 1) := by decide +kernel
theorem dX8_retrieveAll_60 : decode cX8_retrieveAll 60 = .ok (.aload_n 0, 1) := by decide +kernel
theorem dX8_retrieveAll_61 : decode cX8_retrieveAll 61 = .ok (.aload_n 0, 1) := by decide +kernel
theorem dX8_retrieveAll_62 : decode cX8_retrieveAll 62 = .ok (.getfield 72, 3) := by decide +kernel
theorem dX8_retrieveAll_65 : decode cX8_retrieveAll 65 = .ok (.invokevirtual 194, 3) := by decide +kernel
theorem dX8_retrieveAll_68 : decode cX8_retrieveAll 68 = .ok (.ireturn, 1) := by decide +kernel
theorem dX8_isWrong_0 : decode cX8_isWrong 0 = .ok (.aload_n 0, 1) := by decide +kernel
theorem dX8_isWrong_1 : decode cX8_isWrong 1 = .ok (.iload_n 1, 1) := by decide +kernel
theorem dX8_isWrong_2 : decode cX8_isWrong 2 = .ok (.invokevirtual 104, 3) := by decide +kernel
theorem dX8_isWrong_5 : decode cX8_isWrong 5 = .ok (.ifCond .ne 48, 3) := by decide +kernel
theorem dX8_isWrong_8 : decode cX8_isWrong 8 = .ok (.aload_n 0, 1) := by decide +kernel
theorem dX8_isWrong_9 : decode cX8_isWrong 9 = .ok (.iload_n 1, 1) := by decide +kernel
theorem dX8_isWrong_10 : decode cX8_isWrong 10 = .ok (.iconst 1, 1) := by decide +kernel
theorem dX8_isWrong_11 : decode cX8_isWrong 11 = .ok (.isub, 1) := by decide +kernel
theorem dX8_isWrong_12 : decode cX8_isWrong 12 = .ok (.invokevirtual 104, 3) := by decide +kernel
theorem dX8_isWrong_15 : decode cX8_isWrong 15 = .ok (.ifCond .ne 38, 3) := by decide +kernel
theorem dX8_isWrong_18 : decode cX8_isWrong 18 = .ok (.aload_n 0, 1) := by decide +kernel
theorem dX8_isWrong_19 : decode cX8_isWrong 19 = .ok (.aload_n 0, 1) := by decide +kernel
theorem dX8_isWrong_20 : decode cX8_isWrong 20 = .ok (.getfield 13, 3) := by decide +kernel
theorem dX8_isWrong_23 : decode cX8_isWrong 23 = .ok (.bipush 79, 2) := by decide +kernel
theorem dX8_isWrong_25 : decode cX8_isWrong 25 = .ok (.iload_n 1, 1) := by decide +kernel
theorem dX8_isWrong_26 : decode cX8_isWrong 26 = .ok (.iadd, 1) := by decide +kernel
theorem dX8_isWrong_27 : decode cX8_isWrong 27 = .ok (.iaload, 1) := by decide +kernel
theorem dX8_isWrong_28 : decode cX8_isWrong 28 = .ok (.invokevirtual 119, 3) := by decide +kernel
theorem dX8_isWrong_31 : decode cX8_isWrong 31 = .ok (.aload_n 0, 1) := by decide +kernel
theorem dX8_isWrong_32 : decode cX8_isWrong 32 = .ok (.aload_n 0, 1) := by decide +kernel
theorem dX8_isWrong_33 : decode cX8_isWrong 33 = .ok (.getfield 13, 3) := by decide +kernel
theorem dX8_isWrong_36 : decode cX8_isWrong 36 = .ok (.bipush 79, 2) := by decide +kernel
theorem dX8_isWrong_38 : decode cX8_isWrong 38 = .ok (.iload_n 1, 1) := by decide +kernel
theorem dX8_isWrong_39 : decode cX8_isWrong 39 = .ok (.iadd, 1) := by decide +kernel
theorem dX8_isWrong_40 : decode cX8_isWrong 40 = .ok (.iconst 1, 1) := by decide +kernel
theorem dX8_isWrong_41 : decode cX8_isWrong 41 = .ok (.isub, 1) := by decide +kernel
theorem dX8_isWrong_42 : decode cX8_isWrong 42 = .ok (.iaload, 1) := by decide +kernel
theorem dX8_isWrong_43 : decode cX8_isWrong 43 = .ok (.invokevirtual 119, 3) := by decide +kernel
theorem dX8_isWrong_46 : decode cX8_isWrong 46 = .ok (.if_icmp .ge 7, 3) := by decide +kernel
theorem dX8_isWrong_49 : decode cX8_isWrong 49 = .ok (.iconst 1, 1) := by decide +kernel
theorem dX8_isWrong_50 : decode cX8_isWrong 50 = .ok (.goto 4, 3) := by decide +kernel
theorem dX8_isWrong_53 : decode cX8_isWrong 53 = .ok (.iconst 0, 1) := by decide +kernel
theorem dX8_isWrong_54 : decode cX8_isWrong 54 = .ok (.ireturn, 1) := by decide +kernel
theorem dX8_isAhead_0 : decode cX8_isAhead 0 = .ok (.aload_n 0, 1) := by decide +kernel
theorem dX8_isAhead_1 : decode cX8_isAhead 1 = .ok (.getfield 13, 3) := by decide +kernel
theorem dX8_isAhead_4 : decode cX8_isAhead 4 = .ok (.bipush 79, 2) := by decide +kernel
theorem dX8_isAhead_6 : decode cX8_isAhead 6 = .ok (.iload_n 1, 1) := by decide +kernel
theorem dX8_isAhead_7 : decode cX8_isAhead 7 = .ok (.iadd, 1) := by decide +kernel
theorem dX8_isAhead_8 : decode cX8_isAhead 8 = .ok (.iaload, 1) := by decide +kernel
theorem dX8_isAhead_9 : decode cX8_isAhead 9 = .ok (.istore_n 3, 1) := by decide +kernel
theorem dX8_isAhead_10 : decode cX8_isAhead 10 = .ok (.aload_n 0, 1) := by decide +kernel
theorem dX8_isAhead_11 : decode cX8_isAhead 11 = .ok (.getfield 13, 3) := by decide +kernel
theorem dX8_isAhead_14 : decode cX8_isAhead 14 = .ok (.bipush 79, 2) := by decide +kernel
theorem dX8_isAhead_16 : decode cX8_isAhead 16 = .ok (.iload_n 2, 1) := by decide +kernel
theorem dX8_isAhead_17 : decode cX8_isAhead 17 = .ok (.iadd, 1) := by decide +kernel
theorem dX8_isAhead_18 : decode cX8_isAhead 18 = .ok (.iaload, 1) := by decide +kernel
theorem dX8_isAhead_19 : decode cX8_isAhead 19 = .ok (.istore 4, 2) := by decide +kernel
theorem dX8_isAhead_21 : decode cX8_isAhead 21 = .ok (.aload_n 0, 1) := by decide +kernel
theorem dX8_isAhead_22 : decode cX8_isAhead 22 = .ok (.iload_n 3, 1) := by decide +kernel
theorem dX8_isAhead_23 : decode cX8_isAhead 23 = .ok (.invokevirtual 119, 3) := by decide +kernel
theorem dX8_isAhead_26 : decode cX8_isAhead 26 = .ok (.aload_n 0, 1) := by decide +kernel
theorem dX8_isAhead_27 : decode cX8_isAhead 27 = .ok (.iload 4, 2) := by decide +kernel
theorem dX8_isAhead_29 : decode cX8_isAhead 29 = .ok (.invokevirtual 119, 3) := by decide +kernel
theorem dX8_isAhead_32 : decode cX8_isAhead 32 = .ok (.if_icmp .eq 25, 3) := by decide +kernel
theorem dX8_isAhead_35 : decode cX8_isAhead 35 = .ok (.aload_n 0, 1) := by decide +kernel
theorem dX8_isAhead_36 : decode cX8_isAhead 36 = .ok (.iload_n 3, 1) := by decide +kernel
theorem dX8_isAhead_37 : decode cX8_isAhead 37 = .ok (.invokevirtual 119, 3) := by decide +kernel
theorem dX8_isAhead_40 : decode cX8_isAhead 40 = .ok (.aload_n 0, 1) := by decide +kernel
theorem dX8_isAhead_41 : decode cX8_isAhead 41 = .ok (.iload 4, 2) := by decide +kernel
theorem dX8_isAhead_43 : decode cX8_isAhead 43 = .ok (.invokevirtual 119, 3) := by decide +kernel
theorem dX8_isAhead_46 : decode cX8_isAhead 46 = .ok (.if_icmp .ge 7, 3) := by decide +kernel
theorem dX8_isAhead_49 : decode cX8_isAhead 49 = .ok (.iconst 1, 1) := by decide +kernel
theorem dX8_isAhead_50 : decode cX8_isAhead 50 = .ok (.goto 18, 3) := by decide +kernel
theorem dX8_isAhead_53 : decode cX8_isAhead 53 = .ok (.iconst 0, 1) := by decide +kernel
theorem dX8_isAhead_54 : decode cX8_isAhead 54 = .ok (.goto 14, 3) := by decide +kernel
theorem dX8_isAhead_57 : decode cX8_isAhead 57 = .ok (.iload_n 3, 1) := by decide +kernel
theorem dX8_isAhead_58 : decode cX8_isAhead 58 = .ok (.iload 4, 2) := by decide +kernel
theorem dX8_isAhead_60 : decode cX8_isAhead 60 = .ok (.if_icmp .ge 7, 3) := by decide +kernel
theorem dX8_isAhead_63 : decode cX8_isAhead 63 = .ok (.iconst 1, 1) := by decide +kernel
theorem dX8_isAhead_64 : decode cX8_isAhead 64 = .ok (.goto 4, 3) := by decide +kernel
theorem dX8_isAhead_67 : decode cX8_isAhead 67 = .ok (.iconst 0, 1) := by decide +kernel
theorem dX8_isAhead_68 : decode cX8_isAhead 68 = .ok (.ireturn, 1) := by decide +kernel
theorem dX8_tidy_0 : decode cX8_tidy 0 = .ok (.aload_n 0, 1) := by decide +kernel
theorem dX8_tidy_1 : decode cX8_tidy 1 = .ok (.invokevirtual 188, 3) := by decide +kernel
theorem dX8_tidy_4 : decode cX8_tidy 4 = .ok (.iconst 0, 1) := by decide +kernel
theorem dX8_tidy_5 : decode cX8_tidy 5 = .ok (.istore_n 1, 1) := by decide +kernel
theorem dX8_tidy_6 : decode cX8_tidy 6 = .ok (.iconst 1, 1) := by decide +kernel
theorem dX8_tidy_7 : decode cX8_tidy 7 = .ok (.istore_n 2, 1) := by decide +kernel
theorem dX8_tidy_8 : decode cX8_tidy 8 = .ok (.iload_n 2, 1) := by decide +kernel
theorem dX8_tidy_9 : decode cX8_tidy 9 = .ok (.bipush 60, 2) := by decide +kernel
theorem dX8_tidy_11 : decode cX8_tidy 11 = .ok (.if_icmp .ge 72, 3) := by decide +kernel
theorem dX8_tidy_14 : decode cX8_tidy 14 = .ok (.aload_n 0, 1) := by decide +kernel
theorem dX8_tidy_15 : decode cX8_tidy 15 = .ok (.iload_n 2, 1) := by decide +kernel
theorem dX8_tidy_16 : decode cX8_tidy 16 = .ok (.invokevirtual 258, 3) := by decide +kernel
theorem dX8_tidy_19 : decode cX8_tidy 19 = .ok (.ifCond .ne 6, 3) := by decide +kernel
theorem dX8_tidy_22 : decode cX8_tidy 22 = .ok (.goto 55, 3) := by decide +kernel
theorem dX8_tidy_25 : decode cX8_tidy 25 = .ok (.iload_n 1, 1) := by decide +kernel
theorem dX8_tidy_26 : decode cX8_tidy 26 = .ok (.istore_n 3, 1) := by decide +kernel
theorem dX8_tidy_27 : decode cX8_tidy 27 = .ok (.iload_n 3, 1) := by decide +kernel
theorem dX8_tidy_28 : decode cX8_tidy 28 = .ok (.ifCond .le 39, 3) := by decide +kernel
theorem dX8_tidy_31 : decode cX8_tidy 31 = .ok (.aload_n 0, 1) := by decide +kernel
theorem dX8_tidy_32 : decode cX8_tidy 32 = .ok (.iload_n 2, 1) := by decide +kernel
theorem dX8_tidy_33 : decode cX8_tidy 33 = .ok (.aload_n 0, 1) := by decide +kernel
theorem dX8_tidy_34 : decode cX8_tidy 34 = .ok (.getfield 75, 3) := by decide +kernel
theorem dX8_tidy_37 : decode cX8_tidy 37 = .ok (.iload_n 3, 1) := by decide +kernel
theorem dX8_tidy_38 : decode cX8_tidy 38 = .ok (.iconst 1, 1) := by decide +kernel
theorem dX8_tidy_39 : decode cX8_tidy 39 = .ok (.isub, 1) := by decide +kernel
theorem dX8_tidy_40 : decode cX8_tidy 40 = .ok (.iaload, 1) := by decide +kernel
theorem dX8_tidy_41 : decode cX8_tidy 41 = .ok (.invokevirtual 261, 3) := by decide +kernel
theorem dX8_tidy_44 : decode cX8_tidy 44 = .ok (.ifCond .eq 23, 3) := by decide +kernel
theorem dX8_tidy_47 : decode cX8_tidy 47 = .ok (.aload_n 0, 1) := by decide +kernel
theorem dX8_tidy_48 : decode cX8_tidy 48 = .ok (.getfield 75, 3) := by decide +kernel
theorem dX8_tidy_51 : decode cX8_tidy 51 = .ok (.iload_n 3, 1) := by decide +kernel
theorem dX8_tidy_52 : decode cX8_tidy 52 = .ok (.aload_n 0, 1) := by decide +kernel
theorem dX8_tidy_53 : decode cX8_tidy 53 = .ok (.getfield 75, 3) := by decide +kernel
theorem dX8_tidy_56 : decode cX8_tidy 56 = .ok (.iload_n 3, 1) := by decide +kernel
theorem dX8_tidy_57 : decode cX8_tidy 57 = .ok (.iconst 1, 1) := by decide +kernel
theorem dX8_tidy_58 : decode cX8_tidy 58 = .ok (.isub, 1) := by decide +kernel
theorem dX8_tidy_59 : decode cX8_tidy 59 = .ok (.iaload, 1) := by decide +kernel
theorem dX8_tidy_60 : decode cX8_tidy 60 = .ok (.iastore, 1) := by decide +kernel
theorem dX8_tidy_61 : decode cX8_tidy 61 = .ok (.iinc 3 (-1), 3) := by decide +kernel
theorem dX8_tidy_64 : decode cX8_tidy 64 = .ok (.goto (-37), 3) := by decide +kernel
theorem dX8_tidy_67 : decode cX8_tidy 67 = .ok (.aload_n 0, 1) := by decide +kernel
theorem dX8_tidy_68 : decode cX8_tidy 68 = .ok (.getfield 75, 3) := by decide +kernel
theorem dX8_tidy_71 : decode cX8_tidy 71 = .ok (.iload_n 3, 1) := by decide +kernel
theorem dX8_tidy_72 : decode cX8_tidy 72 = .ok (.iload_n 2, 1) := by decide +kernel
theorem dX8_tidy_73 : decode cX8_tidy 73 = .ok (.iastore, 1) := by decide +kernel
theorem dX8_tidy_74 : decode cX8_tidy 74 = .ok (.iinc 1 1, 3) := by decide +kernel
theorem dX8_tidy_77 : decode cX8_tidy 77 = .ok (.iinc 2 2, 3) := by decide +kernel
theorem dX8_tidy_80 : decode cX8_tidy 80 = .ok (.goto (-72), 3) := by decide +kernel
theorem dX8_tidy_83 : decode cX8_tidy 83 = .ok (.iconst 0, 1) := by decide +kernel
theorem dX8_tidy_84 : decode cX8_tidy 84 = .ok (.istore_n 2, 1) := by decide +kernel
theorem dX8_tidy_85 : decode cX8_tidy 85 = .ok (.iconst 0, 1) := by decide +kernel
theorem dX8_tidy_86 : decode cX8_tidy 86 = .ok (.istore_n 3, 1) := by decide +kernel
theorem dX8_tidy_87 : decode cX8_tidy 87 = .ok (.iload_n 3, 1) := by decide +kernel
theorem dX8_tidy_88 : decode cX8_tidy 88 = .ok (.iload_n 1, 1) := by decide +kernel
theorem dX8_tidy_89 : decode cX8_tidy 89 = .ok (.if_icmp .ge 102, 3) := by decide +kernel
theorem dX8_tidy_92 : decode cX8_tidy 92 = .ok (.aload_n 0, 1) := by decide +kernel
theorem dX8_tidy_93 : decode cX8_tidy 93 = .ok (.aload_n 0, 1) := by decide +kernel
theorem dX8_tidy_94 : decode cX8_tidy 94 = .ok (.getfield 75, 3) := by decide +kernel
theorem dX8_tidy_97 : decode cX8_tidy 97 = .ok (.iload_n 3, 1) := by decide +kernel
theorem dX8_tidy_98 : decode cX8_tidy 98 = .ok (.iaload, 1) := by decide +kernel
theorem dX8_tidy_99 : decode cX8_tidy 99 = .ok (.invokevirtual 258, 3) := by decide +kernel
theorem dX8_tidy_102 : decode cX8_tidy 102 = .ok (.ifCond .ne 6, 3) := by decide +kernel
theorem dX8_tidy_105 : decode cX8_tidy 105 = .ok (.goto 80, 3) := by decide +kernel
theorem dX8_tidy_108 : decode cX8_tidy 108 = .ok (.aload_n 0, 1) := by decide +kernel
theorem dX8_tidy_109 : decode cX8_tidy 109 = .ok (.getfield 13, 3) := by decide +kernel
theorem dX8_tidy_112 : decode cX8_tidy 112 = .ok (.bipush 79, 2) := by decide +kernel
theorem dX8_tidy_114 : decode cX8_tidy 114 = .ok (.aload_n 0, 1) := by decide +kernel
theorem dX8_tidy_115 : decode cX8_tidy 115 = .ok (.getfield 75, 3) := by decide +kernel
theorem dX8_tidy_118 : decode cX8_tidy 118 = .ok (.iload_n 3, 1) := by decide +kernel
theorem dX8_tidy_119 : decode cX8_tidy 119 = .ok (.iaload, 1) := by decide +kernel
theorem dX8_tidy_120 : decode cX8_tidy 120 = .ok (.iadd, 1) := by decide +kernel
theorem dX8_tidy_121 : decode cX8_tidy 121 = .ok (.iconst 1, 1) := by decide +kernel
theorem dX8_tidy_122 : decode cX8_tidy 122 = .ok (.isub, 1) := by decide +kernel
theorem dX8_tidy_123 : decode cX8_tidy 123 = .ok (.iaload, 1) := by decide +kernel
theorem dX8_tidy_124 : decode cX8_tidy 124 = .ok (.istore 4, 2) := by decide +kernel
theorem dX8_tidy_126 : decode cX8_tidy 126 = .ok (.aload_n 0, 1) := by decide +kernel
theorem dX8_tidy_127 : decode cX8_tidy 127 = .ok (.aload_n 0, 1) := by decide +kernel
theorem dX8_tidy_128 : decode cX8_tidy 128 = .ok (.iload 4, 2) := by decide +kernel
theorem dX8_tidy_130 : decode cX8_tidy 130 = .ok (.iconst 0, 1) := by decide +kernel
theorem dX8_tidy_131 : decode cX8_tidy 131 = .ok (.invokevirtual 108, 3) := by decide +kernel
theorem dX8_tidy_134 : decode cX8_tidy 134 = .ok (.aload_n 0, 1) := by decide +kernel
theorem dX8_tidy_135 : decode cX8_tidy 135 = .ok (.iload 4, 2) := by decide +kernel
theorem dX8_tidy_137 : decode cX8_tidy 137 = .ok (.invokevirtual 119, 3) := by decide +kernel
theorem dX8_tidy_140 : decode cX8_tidy 140 = .ok (.aload_n 0, 1) := by decide +kernel
theorem dX8_tidy_141 : decode cX8_tidy 141 = .ok (.iload 4, 2) := by decide +kernel
theorem dX8_tidy_143 : decode cX8_tidy 143 = .ok (.invokevirtual 116, 3) := by decide +kernel
theorem dX8_tidy_146 : decode cX8_tidy 146 = .ok (.invokevirtual 180, 3) := by decide +kernel
theorem dX8_tidy_149 : decode cX8_tidy 149 = .ok (.istore 5, 2) := by decide +kernel
theorem dX8_tidy_151 : decode cX8_tidy 151 = .ok (.iload 5, 2) := by decide +kernel
theorem dX8_tidy_153 : decode cX8_tidy 153 = .ok (.ifCond .lt 32, 3) := by decide +kernel
theorem dX8_tidy_156 : decode cX8_tidy 156 = .ok (.aload_n 0, 1) := by decide +kernel
theorem dX8_tidy_157 : decode cX8_tidy 157 = .ok (.iload 5, 2) := by decide +kernel
theorem dX8_tidy_159 : decode cX8_tidy 159 = .ok (.aload_n 0, 1) := by decide +kernel
theorem dX8_tidy_160 : decode cX8_tidy 160 = .ok (.iload 4, 2) := by decide +kernel
theorem dX8_tidy_162 : decode cX8_tidy 162 = .ok (.invokevirtual 119, 3) := by decide +kernel
theorem dX8_tidy_165 : decode cX8_tidy 165 = .ok (.invokevirtual 139, 3) := by decide +kernel
theorem dX8_tidy_168 : decode cX8_tidy 168 = .ok (.ifCond .eq 6, 3) := by decide +kernel
theorem dX8_tidy_171 : decode cX8_tidy 171 = .ok (.goto 14, 3) := by decide +kernel
theorem dX8_tidy_174 : decode cX8_tidy 174 = .ok (.aload_n 0, 1) := by decide +kernel
theorem dX8_tidy_175 : decode cX8_tidy 175 = .ok (.iload 4, 2) := by decide +kernel
theorem dX8_tidy_177 : decode cX8_tidy 177 = .ok (.iload 5, 2) := by decide +kernel
theorem dX8_tidy_179 : decode cX8_tidy 179 = .ok (.invokevirtual 200, 3) := by decide +kernel
theorem dX8_tidy_182 : decode cX8_tidy 182 = .ok (.iinc 2 1, 3) := by decide +kernel
theorem dX8_tidy_185 : decode cX8_tidy 185 = .ok (.iinc 3 1, 3) := by decide +kernel
theorem dX8_tidy_188 : decode cX8_tidy 188 = .ok (.goto (-101), 3) := by decide +kernel
theorem dX8_tidy_191 : decode cX8_tidy 191 = .ok (.aload_n 0, 1) := by decide +kernel
theorem dX8_tidy_192 : decode cX8_tidy 192 = .ok (.iload_n 2, 1) := by decide +kernel
theorem dX8_tidy_193 : decode cX8_tidy 193 = .ok (.invokevirtual 194, 3) := by decide +kernel
theorem dX8_tidy_196 : decode cX8_tidy 196 = .ok (.ireturn, 1) := by decide +kernel
theorem dX8_passes_0 : decode cX8_passes 0 = .ok (.iload_n 1, 1) := by decide +kernel
theorem dX8_passes_1 : decode cX8_passes 1 = .ok (.iconst 1, 1) := by decide +kernel
theorem dX8_passes_2 : decode cX8_passes 2 = .ok (.sipush 999, 3) := by decide +kernel
theorem dX8_passes_5 : decode cX8_passes 5 = .ok (.invokestatic 112, 3) := by decide +kernel
theorem dX8_passes_8 : decode cX8_passes 8 = .ok (.ifCond .ne 9, 3) := by decide +kernel
theorem dX8_passes_11 : decode cX8_passes 11 = .ok (.aload_n 0, 1) := by decide +kernel
theorem dX8_passes_12 : decode cX8_passes 12 = .ok (.iconst 1, 1) := by decide +kernel
theorem dX8_passes_13 : decode cX8_passes 13 = .ok (.invokevirtual 177, 3) := by decide +kernel
theorem dX8_passes_16 : decode cX8_passes 16 = .ok (.ireturn, 1) := by decide +kernel
theorem dX8_passes_17 : decode cX8_passes 17 = .ok (.aload_n 0, 1) := by decide +kernel
theorem dX8_passes_18 : decode cX8_passes 18 = .ok (.getfield 13, 3) := by decide +kernel
theorem dX8_passes_21 : decode cX8_passes 21 = .ok (.iconst 0, 1) := by decide +kernel
theorem dX8_passes_22 : decode cX8_passes 22 = .ok (.iaload, 1) := by decide +kernel
theorem dX8_passes_23 : decode cX8_passes 23 = .ok (.iload_n 1, 1) := by decide +kernel
theorem dX8_passes_24 : decode cX8_passes 24 = .ok (.iadd, 1) := by decide +kernel
theorem dX8_passes_25 : decode cX8_passes 25 = .ok (.sipush 9999, 3) := by decide +kernel
theorem dX8_passes_28 : decode cX8_passes 28 = .ok (.if_icmp .le 9, 3) := by decide +kernel
theorem dX8_passes_31 : decode cX8_passes 31 = .ok (.aload_n 0, 1) := by decide +kernel
theorem dX8_passes_32 : decode cX8_passes 32 = .ok (.iconst 2, 1) := by decide +kernel
theorem dX8_passes_33 : decode cX8_passes 33 = .ok (.invokevirtual 177, 3) := by decide +kernel
theorem dX8_passes_36 : decode cX8_passes 36 = .ok (.ireturn, 1) := by decide +kernel
theorem dX8_passes_37 : decode cX8_passes 37 = .ok (.aload_n 0, 1) := by decide +kernel
theorem dX8_passes_38 : decode cX8_passes 38 = .ok (.getfield 13, 3) := by decide +kernel
theorem dX8_passes_41 : decode cX8_passes 41 = .ok (.iconst 0, 1) := by decide +kernel
theorem dX8_passes_42 : decode cX8_passes 42 = .ok (.dup2, 1) := by decide +kernel
theorem dX8_passes_43 : decode cX8_passes 43 = .ok (.iaload, 1) := by decide +kernel
theorem dX8_passes_44 : decode cX8_passes 44 = .ok (.iload_n 1, 1) := by decide +kernel
theorem dX8_passes_45 : decode cX8_passes 45 = .ok (.iadd, 1) := by decide +kernel
theorem dX8_passes_46 : decode cX8_passes 46 = .ok (.iastore, 1) := by decide +kernel
theorem dX8_passes_47 : decode cX8_passes 47 = .ok (.aload_n 0, 1) := by decide +kernel
theorem dX8_passes_48 : decode cX8_passes 48 = .ok (.getfield 13, 3) := by decide +kernel
theorem dX8_passes_51 : decode cX8_passes 51 = .ok (.iconst 0, 1) := by decide +kernel
theorem dX8_passes_52 : decode cX8_passes 52 = .ok (.iaload, 1) := by decide +kernel
theorem dX8_passes_53 : decode cX8_passes 53 = .ok (.ireturn, 1) := by decide +kernel
theorem dX8_pass_0 : decode cX8_pass 0 = .ok (.aload_n 0, 1) := by decide +kernel
theorem dX8_pass_1 : decode cX8_pass 1 = .ok (.invokevirtual 188, 3) := by decide +kernel
theorem dX8_pass_4 : decode cX8_pass 4 = .ok (.aload_n 0, 1) := by decide +kernel
theorem dX8_pass_5 : decode cX8_pass 5 = .ok (.aload_n 0, 1) := by decide +kernel
theorem dX8_pass_6 : decode cX8_pass 6 = .ok (.iload_n 1, 1) := by decide +kernel
theorem dX8_pass_7 : decode cX8_pass 7 = .ok (.invokevirtual 264, 3) := by decide +kernel
theorem dX8_pass_10 : decode cX8_pass 10 = .ok (.invokevirtual 194, 3) := by decide +kernel
theorem dX8_pass_13 : decode cX8_pass 13 = .ok (.ireturn, 1) := by decide +kernel
theorem dX8_machine_0 : decode cX8_machine 0 = .ok (.aload_n 0, 1) := by decide +kernel
theorem dX8_machine_1 : decode cX8_machine 1 = .ok (.iconst 0, 1) := by decide +kernel
theorem dX8_machine_2 : decode cX8_machine 2 = .ok (.putfield 3, 3) := by decide +kernel
theorem dX8_machine_5 : decode cX8_machine 5 = .ok (.iload_n 1, 1) := by decide +kernel
theorem dX8_machine_6 : decode cX8_machine 6 = .ok (.iconst 0, 1) := by decide +kernel
theorem dX8_machine_7 : decode cX8_machine 7 = .ok (.iconst 3, 1) := by decide +kernel
theorem dX8_machine_8 : decode cX8_machine 8 = .ok (.invokestatic 112, 3) := by decide +kernel
theorem dX8_machine_11 : decode cX8_machine 11 = .ok (.ifCond .ne 9, 3) := by decide +kernel
theorem dX8_machine_14 : decode cX8_machine 14 = .ok (.aload_n 0, 1) := by decide +kernel
theorem dX8_machine_15 : decode cX8_machine 15 = .ok (.iconst 1, 1) := by decide +kernel
theorem dX8_machine_16 : decode cX8_machine 16 = .ok (.invokevirtual 177, 3) := by decide +kernel
theorem dX8_machine_19 : decode cX8_machine 19 = .ok (.ireturn, 1) := by decide +kernel
theorem dX8_machine_20 : decode cX8_machine 20 = .ok (.iload_n 2, 1) := by decide +kernel
theorem dX8_machine_21 : decode cX8_machine 21 = .ok (.iconst 0, 1) := by decide +kernel
theorem dX8_machine_22 : decode cX8_machine 22 = .ok (.iconst 2, 1) := by decide +kernel
theorem dX8_machine_23 : decode cX8_machine 23 = .ok (.invokestatic 112, 3) := by decide +kernel
theorem dX8_machine_26 : decode cX8_machine 26 = .ok (.ifCond .eq 19, 3) := by decide +kernel
theorem dX8_machine_29 : decode cX8_machine 29 = .ok (.aload_n 0, 1) := by decide +kernel
theorem dX8_machine_30 : decode cX8_machine 30 = .ok (.getfield 13, 3) := by decide +kernel
theorem dX8_machine_33 : decode cX8_machine 33 = .ok (.bipush 7, 2) := by decide +kernel
theorem dX8_machine_35 : decode cX8_machine 35 = .ok (.iconst 3, 1) := by decide +kernel
theorem dX8_machine_36 : decode cX8_machine 36 = .ok (.iload_n 1, 1) := by decide +kernel
theorem dX8_machine_37 : decode cX8_machine 37 = .ok (.imul, 1) := by decide +kernel
theorem dX8_machine_38 : decode cX8_machine 38 = .ok (.iadd, 1) := by decide +kernel
theorem dX8_machine_39 : decode cX8_machine 39 = .ok (.iload_n 2, 1) := by decide +kernel
theorem dX8_machine_40 : decode cX8_machine 40 = .ok (.iadd, 1) := by decide +kernel
theorem dX8_machine_41 : decode cX8_machine 41 = .ok (.iaload, 1) := by decide +kernel
theorem dX8_machine_42 : decode cX8_machine 42 = .ok (.goto 8, 3) := by decide +kernel
theorem dX8_machine_45 : decode cX8_machine 45 = .ok (.aload_n 0, 1) := by decide +kernel
theorem dX8_machine_46 : decode cX8_machine 46 = .ok (.iconst 2, 1) := by decide +kernel
theorem dX8_machine_47 : decode cX8_machine 47 = .ok (.invokevirtual 177, 3) := by decide +kernel
theorem dX8_machine_50 : decode cX8_machine 50 = .ok (.ireturn, 1) := by decide +kernel
theorem dX8_jobs_0 : decode cX8_jobs 0 = .ok (.aload_n 0, 1) := by decide +kernel
theorem dX8_jobs_1 : decode cX8_jobs 1 = .ok (.getfield 13, 3) := by decide +kernel
theorem dX8_jobs_4 : decode cX8_jobs 4 = .ok (.bipush 6, 2) := by decide +kernel
theorem dX8_jobs_6 : decode cX8_jobs 6 = .ok (.iaload, 1) := by decide +kernel
theorem dX8_jobs_7 : decode cX8_jobs 7 = .ok (.ireturn, 1) := by decide +kernel
theorem dX8_job_0 : decode cX8_job 0 = .ok (.aload_n 0, 1) := by decide +kernel
theorem dX8_job_1 : decode cX8_job 1 = .ok (.iconst 0, 1) := by decide +kernel
theorem dX8_job_2 : decode cX8_job 2 = .ok (.putfield 3, 3) := by decide +kernel
theorem dX8_job_5 : decode cX8_job 5 = .ok (.iload_n 1, 1) := by decide +kernel
theorem dX8_job_6 : decode cX8_job 6 = .ok (.iconst 0, 1) := by decide +kernel
theorem dX8_job_7 : decode cX8_job 7 = .ok (.aload_n 0, 1) := by decide +kernel
theorem dX8_job_8 : decode cX8_job 8 = .ok (.getfield 13, 3) := by decide +kernel
theorem dX8_job_11 : decode cX8_job 11 = .ok (.bipush 6, 2) := by decide +kernel
theorem dX8_job_13 : decode cX8_job 13 = .ok (.iaload, 1) := by decide +kernel
theorem dX8_job_14 : decode cX8_job 14 = .ok (.iconst 1, 1) := by decide +kernel
theorem dX8_job_15 : decode cX8_job 15 = .ok (.isub, 1) := by decide +kernel
theorem dX8_job_16 : decode cX8_job 16 = .ok (.invokestatic 112, 3) := by decide +kernel
theorem dX8_job_19 : decode cX8_job 19 = .ok (.ifCond .ne 9, 3) := by decide +kernel
theorem dX8_job_22 : decode cX8_job 22 = .ok (.aload_n 0, 1) := by decide +kernel
theorem dX8_job_23 : decode cX8_job 23 = .ok (.iconst 1, 1) := by decide +kernel
theorem dX8_job_24 : decode cX8_job 24 = .ok (.invokevirtual 177, 3) := by decide +kernel
theorem dX8_job_27 : decode cX8_job 27 = .ok (.ireturn, 1) := by decide +kernel
theorem dX8_job_28 : decode cX8_job 28 = .ok (.iload_n 2, 1) := by decide +kernel
theorem dX8_job_29 : decode cX8_job 29 = .ok (.iconst 0, 1) := by decide +kernel
theorem dX8_job_30 : decode cX8_job 30 = .ok (.iconst 4, 1) := by decide +kernel
theorem dX8_job_31 : decode cX8_job 31 = .ok (.invokestatic 112, 3) := by decide +kernel
theorem dX8_job_34 : decode cX8_job 34 = .ok (.ifCond .eq 20, 3) := by decide +kernel
theorem dX8_job_37 : decode cX8_job 37 = .ok (.aload_n 0, 1) := by decide +kernel
theorem dX8_job_38 : decode cX8_job 38 = .ok (.getfield 13, 3) := by decide +kernel
theorem dX8_job_41 : decode cX8_job 41 = .ok (.sipush 299, 3) := by decide +kernel
theorem dX8_job_44 : decode cX8_job 44 = .ok (.iconst 5, 1) := by decide +kernel
theorem dX8_job_45 : decode cX8_job 45 = .ok (.iload_n 1, 1) := by decide +kernel
theorem dX8_job_46 : decode cX8_job 46 = .ok (.imul, 1) := by decide +kernel
theorem dX8_job_47 : decode cX8_job 47 = .ok (.iadd, 1) := by decide +kernel
theorem dX8_job_48 : decode cX8_job 48 = .ok (.iload_n 2, 1) := by decide +kernel
theorem dX8_job_49 : decode cX8_job 49 = .ok (.iadd, 1) := by decide +kernel
theorem dX8_job_50 : decode cX8_job 50 = .ok (.iaload, 1) := by decide +kernel
theorem dX8_job_51 : decode cX8_job 51 = .ok (.goto 8, 3) := by decide +kernel
theorem dX8_job_54 : decode cX8_job 54 = .ok (.aload_n 0, 1) := by decide +kernel
theorem dX8_job_55 : decode cX8_job 55 = .ok (.iconst 2, 1) := by decide +kernel
theorem dX8_job_56 : decode cX8_job 56 = .ok (.invokevirtual 177, 3) := by decide +kernel
theorem dX8_job_59 : decode cX8_job 59 = .ok (.ireturn, 1) := by decide +kernel
theorem dX8_account_0 : decode cX8_account 0 = .ok (.aload_n 0, 1) := by decide +kernel
theorem dX8_account_1 : decode cX8_account 1 = .ok (.iconst 0, 1) := by decide +kernel
theorem dX8_account_2 : decode cX8_account 2 = .ok (.putfield 3, 3) := by decide +kernel
theorem dX8_account_5 : decode cX8_account 5 = .ok (.iload_n 1, 1) := by decide +kernel
theorem dX8_account_6 : decode cX8_account 6 = .ok (.iconst 0, 1) := by decide +kernel
theorem dX8_account_7 : decode cX8_account 7 = .ok (.iconst 5, 1) := by decide +kernel
theorem dX8_account_8 : decode cX8_account 8 = .ok (.invokestatic 112, 3) := by decide +kernel
theorem dX8_account_11 : decode cX8_account 11 = .ok (.ifCond .eq 14, 3) := by decide +kernel
theorem dX8_account_14 : decode cX8_account 14 = .ok (.aload_n 0, 1) := by decide +kernel
theorem dX8_account_15 : decode cX8_account 15 = .ok (.getfield 13, 3) := by decide +kernel
theorem dX8_account_18 : decode cX8_account 18 = .ok (.iconst 0, 1) := by decide +kernel
theorem dX8_account_19 : decode cX8_account 19 = .ok (.iload_n 1, 1) := by decide +kernel
theorem dX8_account_20 : decode cX8_account 20 = .ok (.iadd, 1) := by decide +kernel
theorem dX8_account_21 : decode cX8_account 21 = .ok (.iaload, 1) := by decide +kernel
theorem dX8_account_22 : decode cX8_account 22 = .ok (.goto 8, 3) := by decide +kernel
theorem dX8_account_25 : decode cX8_account 25 = .ok (.aload_n 0, 1) := by decide +kernel
theorem dX8_account_26 : decode cX8_account 26 = .ok (.iconst 1, 1) := by decide +kernel
theorem dX8_account_27 : decode cX8_account 27 = .ok (.invokevirtual 177, 3) := by decide +kernel
theorem dX8_account_30 : decode cX8_account 30 = .ok (.ireturn, 1) := by decide +kernel
theorem dX8_load_0 : decode cX8_load 0 = .ok (.aload_n 0, 1) := by decide +kernel
theorem dX8_load_1 : decode cX8_load 1 = .ok (.iconst 0, 1) := by decide +kernel
theorem dX8_load_2 : decode cX8_load 2 = .ok (.putfield 3, 3) := by decide +kernel
theorem dX8_load_5 : decode cX8_load 5 = .ok (.iload_n 1, 1) := by decide +kernel
theorem dX8_load_6 : decode cX8_load 6 = .ok (.iconst 0, 1) := by decide +kernel
theorem dX8_load_7 : decode cX8_load 7 = .ok (.iconst 3, 1) := by decide +kernel
theorem dX8_load_8 : decode cX8_load 8 = .ok (.invokestatic 112, 3) := by decide +kernel
theorem dX8_load_11 : decode cX8_load 11 = .ok (.ifCond .ne 10, 3) := by decide +kernel
theorem dX8_load_14 : decode cX8_load 14 = .ok (.aload_n 0, 1) := by decide +kernel
theorem dX8_load_15 : decode cX8_load 15 = .ok (.iconst 1, 1) := by decide +kernel
theorem dX8_load_16 : decode cX8_load 16 = .ok (.invokevirtual 177, 3) := by decide +kernel
theorem dX8_load_19 : decode cX8_load 19 = .ok (.i2f, 1) := by decide +kernel
theorem dX8_load_20 : decode cX8_load 20 = .ok (.freturn, 1) := by decide +kernel
theorem dX8_load_21 : decode cX8_load 21 = .ok (.aload_n 0, 1) := by decide +kernel
theorem dX8_load_22 : decode cX8_load 22 = .ok (.getfield 13, 3) := by decide +kernel
theorem dX8_load_25 : decode cX8_load 25 = .ok (.bipush 7, 2) := by decide +kernel
theorem dX8_load_27 : decode cX8_load 27 = .ok (.iconst 3, 1) := by decide +kernel
theorem dX8_load_28 : decode cX8_load 28 = .ok (.iload_n 1, 1) := by decide +kernel
theorem dX8_load_29 : decode cX8_load 29 = .ok (.imul, 1) := by decide +kernel
theorem dX8_load_30 : decode cX8_load 30 = .ok (.iadd, 1) := by decide +kernel
theorem dX8_load_31 : decode cX8_load 31 = .ok (.iconst 1, 1) := by decide +kernel
theorem dX8_load_32 : decode cX8_load 32 = .ok (.iadd, 1) := by decide +kernel
theorem dX8_load_33 : decode cX8_load 33 = .ok (.iaload, 1) := by decide +kernel
theorem dX8_load_34 : decode cX8_load 34 = .ok (.istore_n 2, 1) := by decide +kernel
theorem dX8_load_35 : decode cX8_load 35 = .ok (.iload_n 2, 1) := by decide +kernel
theorem dX8_load_36 : decode cX8_load 36 = .ok (.ifCond .ne 12, 3) := by decide +kernel
theorem dX8_load_39 : decode cX8_load 39 = .ok (.aload_n 0, 1) := by decide +kernel
theorem dX8_load_40 : decode cX8_load 40 = .ok (.iconst 2, 1) := by decide +kernel
theorem dX8_load_41 : decode cX8_load 41 = .ok (.invokevirtual 177, 3) := by decide +kernel
theorem dX8_load_44 : decode cX8_load 44 = .ok (.i2f, 1) := by decide +kernel
theorem dX8_load_45 : decode cX8_load 45 = .ok (.goto 20, 3) := by decide +kernel
theorem dX8_load_48 : decode cX8_load 48 = .ok (.aload_n 0, 1) := by decide +kernel
theorem dX8_load_49 : decode cX8_load 49 = .ok (.getfield 13, 3) := by decide +kernel
theorem dX8_load_52 : decode cX8_load 52 = .ok (.bipush 7, 2) := by decide +kernel
theorem dX8_load_54 : decode cX8_load 54 = .ok (.iconst 3, 1) := by decide +kernel
theorem dX8_load_55 : decode cX8_load 55 = .ok (.iload_n 1, 1) := by decide +kernel
theorem dX8_load_56 : decode cX8_load 56 = .ok (.imul, 1) := by decide +kernel
theorem dX8_load_57 : decode cX8_load 57 = .ok (.iadd, 1) := by decide +kernel
theorem dX8_load_58 : decode cX8_load 58 = .ok (.iconst 2, 1) := by decide +kernel
theorem dX8_load_59 : decode cX8_load 59 = .ok (.iadd, 1) := by decide +kernel
theorem dX8_load_60 : decode cX8_load 60 = .ok (.iaload, 1) := by decide +kernel
theorem dX8_load_61 : decode cX8_load 61 = .ok (.i2f, 1) := by decide +kernel
theorem dX8_load_62 : decode cX8_load 62 = .ok (.iload_n 2, 1) := by decide +kernel
theorem dX8_load_63 : decode cX8_load 63 = .ok (.i2f, 1) := by decide +kernel
theorem dX8_load_64 : decode cX8_load 64 = .ok (.fdiv, 1) := by decide +kernel
theorem dX8_load_65 : decode cX8_load 65 = .ok (.freturn, 1) := by decide +kernel
theorem dX8_meanJob_0 : decode cX8_meanJob 0 = .ok (.aload_n 0, 1) := by decide +kernel
theorem dX8_meanJob_1 : decode cX8_meanJob 1 = .ok (.iconst 0, 1) := by decide +kernel
theorem dX8_meanJob_2 : decode cX8_meanJob 2 = .ok (.putfield 3, 3) := by decide +kernel
theorem dX8_meanJob_5 : decode cX8_meanJob 5 = .ok (.aload_n 0, 1) := by decide +kernel
theorem dX8_meanJob_6 : decode cX8_meanJob 6 = .ok (.getfield 13, 3) := by decide +kernel
theorem dX8_meanJob_9 : decode cX8_meanJob 9 = .ok (.iconst 1, 1) := by decide +kernel
theorem dX8_meanJob_10 : decode cX8_meanJob 10 = .ok (.iaload, 1) := by decide +kernel
theorem dX8_meanJob_11 : decode cX8_meanJob 11 = .ok (.aload_n 0, 1) := by decide +kernel
theorem dX8_meanJob_12 : decode cX8_meanJob 12 = .ok (.getfield 13, 3) := by decide +kernel
theorem dX8_meanJob_15 : decode cX8_meanJob 15 = .ok (.iconst 2, 1) := by decide +kernel
theorem dX8_meanJob_16 : decode cX8_meanJob 16 = .ok (.iaload, 1) := by decide +kernel
theorem dX8_meanJob_17 : decode cX8_meanJob 17 = .ok (.iadd, 1) := by decide +kernel
theorem dX8_meanJob_18 : decode cX8_meanJob 18 = .ok (.aload_n 0, 1) := by decide +kernel
theorem dX8_meanJob_19 : decode cX8_meanJob 19 = .ok (.getfield 13, 3) := by decide +kernel
theorem dX8_meanJob_22 : decode cX8_meanJob 22 = .ok (.iconst 3, 1) := by decide +kernel
theorem dX8_meanJob_23 : decode cX8_meanJob 23 = .ok (.iaload, 1) := by decide +kernel
theorem dX8_meanJob_24 : decode cX8_meanJob 24 = .ok (.iadd, 1) := by decide +kernel
theorem dX8_meanJob_25 : decode cX8_meanJob 25 = .ok (.istore_n 1, 1) := by decide +kernel
theorem dX8_meanJob_26 : decode cX8_meanJob 26 = .ok (.iload_n 1, 1) := by decide +kernel
theorem dX8_meanJob_27 : decode cX8_meanJob 27 = .ok (.ifCond .ne 12, 3) := by decide +kernel
theorem dX8_meanJob_30 : decode cX8_meanJob 30 = .ok (.aload_n 0, 1) := by decide +kernel
theorem dX8_meanJob_31 : decode cX8_meanJob 31 = .ok (.iconst 1, 1) := by decide +kernel
theorem dX8_meanJob_32 : decode cX8_meanJob 32 = .ok (.invokevirtual 177, 3) := by decide +kernel
theorem dX8_meanJob_35 : decode cX8_meanJob 35 = .ok (.i2d, 1) := by decide +kernel
theorem dX8_meanJob_36 : decode cX8_meanJob 36 = .ok (.goto 13, 3) := by decide +kernel
theorem dX8_meanJob_39 : decode cX8_meanJob 39 = .ok (.aload_n 0, 1) := by decide +kernel
theorem dX8_meanJob_40 : decode cX8_meanJob 40 = .ok (.getfield 13, 3) := by decide +kernel
theorem dX8_meanJob_43 : decode cX8_meanJob 43 = .ok (.iconst 4, 1) := by decide +kernel
theorem dX8_meanJob_44 : decode cX8_meanJob 44 = .ok (.iaload, 1) := by decide +kernel
theorem dX8_meanJob_45 : decode cX8_meanJob 45 = .ok (.i2d, 1) := by decide +kernel
theorem dX8_meanJob_46 : decode cX8_meanJob 46 = .ok (.iload_n 1, 1) := by decide +kernel
theorem dX8_meanJob_47 : decode cX8_meanJob 47 = .ok (.i2d, 1) := by decide +kernel
theorem dX8_meanJob_48 : decode cX8_meanJob 48 = .ok (.ddiv, 1) := by decide +kernel
theorem dX8_meanJob_49 : decode cX8_meanJob 49 = .ok (.dreturn, 1) := by decide +kernel
theorem dX8_report_0 : decode cX8_report 0 = .ok (.aload_n 0, 1) := by decide +kernel
theorem dX8_report_1 : decode cX8_report 1 = .ok (.iconst 0, 1) := by decide +kernel
theorem dX8_report_2 : decode cX8_report 2 = .ok (.putfield 3, 3) := by decide +kernel
theorem dX8_report_5 : decode cX8_report 5 = .ok (.aload_n 0, 1) := by decide +kernel
theorem dX8_report_6 : decode cX8_report 6 = .ok (.getfield 42, 3) := by decide +kernel
theorem dX8_report_9 : decode cX8_report 9 = .ok (.ifCond .lt 12, 3) := by decide +kernel
theorem dX8_report_12 : decode cX8_report 12 = .ok (.iload_n 1, 1) := by decide +kernel
theorem dX8_report_13 : decode cX8_report 13 = .ok (.iconst 0, 1) := by decide +kernel
theorem dX8_report_14 : decode cX8_report 14 = .ok (.iconst 2, 1) := by decide +kernel
theorem dX8_report_15 : decode cX8_report 15 = .ok (.invokestatic 112, 3) := by decide +kernel
theorem dX8_report_18 : decode cX8_report 18 = .ok (.ifCond .ne 9, 3) := by decide +kernel
theorem dX8_report_21 : decode cX8_report 21 = .ok (.aload_n 0, 1) := by decide +kernel
theorem dX8_report_22 : decode cX8_report 22 = .ok (.iconst 1, 1) := by decide +kernel
theorem dX8_report_23 : decode cX8_report 23 = .ok (.invokevirtual 177, 3) := by decide +kernel
theorem dX8_report_26 : decode cX8_report 26 = .ok (.ireturn, 1) := by decide +kernel
theorem dX8_report_27 : decode cX8_report 27 = .ok (.iload_n 2, 1) := by decide +kernel
theorem dX8_report_28 : decode cX8_report 28 = .ok (.iconst 0, 1) := by decide +kernel
theorem dX8_report_29 : decode cX8_report 29 = .ok (.iconst 1, 1) := by decide +kernel
theorem dX8_report_30 : decode cX8_report 30 = .ok (.invokestatic 112, 3) := by decide +kernel
theorem dX8_report_33 : decode cX8_report 33 = .ok (.ifCond .ne 9, 3) := by decide +kernel
theorem dX8_report_36 : decode cX8_report 36 = .ok (.aload_n 0, 1) := by decide +kernel
theorem dX8_report_37 : decode cX8_report 37 = .ok (.iconst 2, 1) := by decide +kernel
theorem dX8_report_38 : decode cX8_report 38 = .ok (.invokevirtual 177, 3) := by decide +kernel
theorem dX8_report_41 : decode cX8_report 41 = .ok (.ireturn, 1) := by decide +kernel
theorem dX8_report_42 : decode cX8_report 42 = .ok (.iload_n 2, 1) := by decide +kernel
theorem dX8_report_43 : decode cX8_report 43 = .ok (.ifCond .ne 9, 3) := by decide +kernel
theorem dX8_report_46 : decode cX8_report 46 = .ok (.iconst 1, 1) := by decide +kernel
theorem dX8_report_47 : decode cX8_report 47 = .ok (.iload_n 1, 1) := by decide +kernel
theorem dX8_report_48 : decode cX8_report 48 = .ok (.iadd, 1) := by decide +kernel
theorem dX8_report_49 : decode cX8_report 49 = .ok (.goto 30, 3) := by decide +kernel
theorem dX8_report_52 : decode cX8_report 52 = .ok (.iload_n 1, 1) := by decide +kernel
theorem dX8_report_53 : decode cX8_report 53 = .ok (.ifCond .ne 10, 3) := by decide +kernel
theorem dX8_report_56 : decode cX8_report 56 = .ok (.aload_n 0, 1) := by decide +kernel
theorem dX8_report_57 : decode cX8_report 57 = .ok (.getfield 42, 3) := by decide +kernel
theorem dX8_report_60 : decode cX8_report 60 = .ok (.goto 19, 3) := by decide +kernel
theorem dX8_report_63 : decode cX8_report 63 = .ok (.iload_n 1, 1) := by decide +kernel
theorem dX8_report_64 : decode cX8_report 64 = .ok (.iconst 1, 1) := by decide +kernel
theorem dX8_report_65 : decode cX8_report 65 = .ok (.if_icmp .ne 10, 3) := by decide +kernel
theorem dX8_report_68 : decode cX8_report 68 = .ok (.aload_n 0, 1) := by decide +kernel
theorem dX8_report_69 : decode cX8_report 69 = .ok (.getfield 45, 3) := by decide +kernel
theorem dX8_report_72 : decode cX8_report 72 = .ok (.goto 7, 3) := by decide +kernel
theorem dX8_report_75 : decode cX8_report 75 = .ok (.aload_n 0, 1) := by decide +kernel
theorem dX8_report_76 : decode cX8_report 76 = .ok (.getfield 48, 3) := by decide +kernel
theorem dX8_report_79 : decode cX8_report 79 = .ok (.ireturn, 1) := by decide +kernel
theorem dX8_feed_0 : decode cX8_feed 0 = .ok (.aload_n 0, 1) := by decide +kernel
theorem dX8_feed_1 : decode cX8_feed 1 = .ok (.iconst 0, 1) := by decide +kernel
theorem dX8_feed_2 : decode cX8_feed 2 = .ok (.putfield 3, 3) := by decide +kernel
theorem dX8_feed_5 : decode cX8_feed 5 = .ok (.aload_n 0, 1) := by decide +kernel
theorem dX8_feed_6 : decode cX8_feed 6 = .ok (.getfield 84, 3) := by decide +kernel
theorem dX8_feed_9 : decode cX8_feed 9 = .ok (.bipush 60, 2) := by decide +kernel
theorem dX8_feed_11 : decode cX8_feed 11 = .ok (.if_icmp .ne 9, 3) := by decide +kernel
theorem dX8_feed_14 : decode cX8_feed 14 = .ok (.aload_n 0, 1) := by decide +kernel
theorem dX8_feed_15 : decode cX8_feed 15 = .ok (.iconst 1, 1) := by decide +kernel
theorem dX8_feed_16 : decode cX8_feed 16 = .ok (.invokevirtual 177, 3) := by decide +kernel
theorem dX8_feed_19 : decode cX8_feed 19 = .ok (.ireturn, 1) := by decide +kernel
theorem dX8_feed_20 : decode cX8_feed 20 = .ok (.aload_n 0, 1) := by decide +kernel
theorem dX8_feed_21 : decode cX8_feed 21 = .ok (.getfield 78, 3) := by decide +kernel
theorem dX8_feed_24 : decode cX8_feed 24 = .ok (.aload_n 0, 1) := by decide +kernel
theorem dX8_feed_25 : decode cX8_feed 25 = .ok (.getfield 84, 3) := by decide +kernel
theorem dX8_feed_28 : decode cX8_feed 28 = .ok (.iload_n 1, 1) := by decide +kernel
theorem dX8_feed_29 : decode cX8_feed 29 = .ok (.iastore, 1) := by decide +kernel
theorem dX8_feed_30 : decode cX8_feed 30 = .ok (.aload_n 0, 1) := by decide +kernel
theorem dX8_feed_31 : decode cX8_feed 31 = .ok (.dup, 1) := by decide +kernel
theorem dX8_feed_32 : decode cX8_feed 32 = .ok (.getfield 84, 3) := by decide +kernel
theorem dX8_feed_35 : decode cX8_feed 35 = .ok (.iconst 1, 1) := by decide +kernel
theorem dX8_feed_36 : decode cX8_feed 36 = .ok (.iadd, 1) := by decide +kernel
theorem dX8_feed_37 : decode cX8_feed 37 = .ok (.putfield 84, 3) := by decide +kernel
theorem dX8_feed_40 : decode cX8_feed 40 = .ok (.aload_n 0, 1) := by decide +kernel
theorem dX8_feed_41 : decode cX8_feed 41 = .ok (.getfield 84, 3) := by decide +kernel
theorem dX8_feed_44 : decode cX8_feed 44 = .ok (.ireturn, 1) := by decide +kernel
theorem dX8_sign_0 : decode cX8_sign 0 = .ok (.aload_n 0, 1) := by decide +kernel
theorem dX8_sign_1 : decode cX8_sign 1 = .ok (.getfield 90, 3) := by decide +kernel
theorem dX8_sign_4 : decode cX8_sign 4 = .ok (.ifCond .ne 26, 3) := by decide +kernel
theorem dX8_sign_7 : decode cX8_sign 7 = .ok (.aload_n 0, 1) := by decide +kernel
theorem dX8_sign_8 : decode cX8_sign 8 = .ok (.getfield 87, 3) := by decide +kernel
theorem dX8_sign_11 : decode cX8_sign 11 = .ok (.aload_n 0, 1) := by decide +kernel
theorem dX8_sign_12 : decode cX8_sign 12 = .ok (.getfield 84, 3) := by decide +kernel
theorem dX8_sign_15 : decode cX8_sign 15 = .ok (.if_icmp .ge 15, 3) := by decide +kernel
theorem dX8_sign_18 : decode cX8_sign 18 = .ok (.aload_n 0, 1) := by decide +kernel
theorem dX8_sign_19 : decode cX8_sign 19 = .ok (.getfield 78, 3) := by decide +kernel
theorem dX8_sign_22 : decode cX8_sign 22 = .ok (.aload_n 0, 1) := by decide +kernel
theorem dX8_sign_23 : decode cX8_sign 23 = .ok (.getfield 87, 3) := by decide +kernel
theorem dX8_sign_26 : decode cX8_sign 26 = .ok (.iaload, 1) := by decide +kernel
theorem dX8_sign_27 : decode cX8_sign 27 = .ok (.goto 4, 3) := by decide +kernel
theorem dX8_sign_30 : decode cX8_sign 30 = .ok (.iconst (-1), 1) := by decide +kernel
theorem dX8_sign_31 : decode cX8_sign 31 = .ok (.ireturn, 1) := by decide +kernel
theorem dX8_number_0 : decode cX8_number 0 = .ok (.iconst 0, 1) := by decide +kernel
theorem dX8_number_1 : decode cX8_number 1 = .ok (.istore_n 3, 1) := by decide +kernel
theorem dX8_number_2 : decode cX8_number 2 = .ok (.iconst 0, 1) := by decide +kernel
theorem dX8_number_3 : decode cX8_number 3 = .ok (.istore 4, 2) := by decide +kernel
theorem dX8_number_5 : decode cX8_number 5 = .ok (.iload 4, 2) := by decide +kernel
theorem dX8_number_7 : decode cX8_number 7 = .ok (.iload_n 1, 1) := by decide +kernel
theorem dX8_number_8 : decode cX8_number 8 = .ok (.if_icmp .ge 45, 3) := by decide +kernel
theorem dX8_number_11 : decode cX8_number 11 = .ok (.aload_n 0, 1) := by decide +kernel
theorem dX8_number_12 : decode cX8_number 12 = .ok (.invokevirtual 267, 3) := by decide +kernel
theorem dX8_number_15 : decode cX8_number 15 = .ok (.bipush 48, 2) := by decide +kernel
theorem dX8_number_17 : decode cX8_number 17 = .ok (.iload_n 2, 1) := by decide +kernel
theorem dX8_number_18 : decode cX8_number 18 = .ok (.invokestatic 112, 3) := by decide +kernel
theorem dX8_number_21 : decode cX8_number 21 = .ok (.ifCond .eq 32, 3) := by decide +kernel
theorem dX8_number_24 : decode cX8_number 24 = .ok (.bipush 10, 2) := by decide +kernel
theorem dX8_number_26 : decode cX8_number 26 = .ok (.iload_n 3, 1) := by decide +kernel
theorem dX8_number_27 : decode cX8_number 27 = .ok (.imul, 1) := by decide +kernel
theorem dX8_number_28 : decode cX8_number 28 = .ok (.aload_n 0, 1) := by decide +kernel
theorem dX8_number_29 : decode cX8_number 29 = .ok (.invokevirtual 267, 3) := by decide +kernel
theorem dX8_number_32 : decode cX8_number 32 = .ok (.iadd, 1) := by decide +kernel
theorem dX8_number_33 : decode cX8_number 33 = .ok (.bipush 48, 2) := by decide +kernel
theorem dX8_number_35 : decode cX8_number 35 = .ok (.isub, 1) := by decide +kernel
theorem dX8_number_36 : decode cX8_number 36 = .ok (.istore_n 3, 1) := by decide +kernel
theorem dX8_number_37 : decode cX8_number 37 = .ok (.aload_n 0, 1) := by decide +kernel
theorem dX8_number_38 : decode cX8_number 38 = .ok (.dup, 1) := by decide +kernel
theorem dX8_number_39 : decode cX8_number 39 = .ok (.getfield 87, 3) := by decide +kernel
theorem dX8_number_42 : decode cX8_number 42 = .ok (.iconst 1, 1) := by decide +kernel
theorem dX8_number_43 : decode cX8_number 43 = .ok (.iadd, 1) := by decide +kernel
theorem dX8_number_44 : decode cX8_number 44 = .ok (.putfield 87, 3) := by decide +kernel
theorem dX8_number_47 : decode cX8_number 47 = .ok (.iinc 4 1, 3) := by decide +kernel
theorem dX8_number_50 : decode cX8_number 50 = .ok (.goto (-45), 3) := by decide +kernel
theorem dX8_number_53 : decode cX8_number 53 = .ok (.aload_n 0, 1) := by decide +kernel
theorem dX8_number_54 : decode cX8_number 54 = .ok (.dup, 1) := by decide +kernel
theorem dX8_number_55 : decode cX8_number 55 = .ok (.getfield 90, 3) := by decide +kernel
theorem dX8_number_58 : decode cX8_number 58 = .ok (.iload 4, 2) := by decide +kernel
theorem dX8_number_60 : decode cX8_number 60 = .ok (.ifCond .ne 7, 3) := by decide +kernel
theorem dX8_number_63 : decode cX8_number 63 = .ok (.iconst 1, 1) := by decide +kernel
theorem dX8_number_64 : decode cX8_number 64 = .ok (.goto 4, 3) := by decide +kernel
theorem dX8_number_67 : decode cX8_number 67 = .ok (.iconst 0, 1) := by decide +kernel
theorem dX8_number_68 : decode cX8_number 68 = .ok (.ior, 1) := by decide +kernel
theorem dX8_number_69 : decode cX8_number 69 = .ok (.putfield 90, 3) := by decide +kernel
theorem dX8_number_72 : decode cX8_number 72 = .ok (.iload_n 3, 1) := by decide +kernel
theorem dX8_number_73 : decode cX8_number 73 = .ok (.ireturn, 1) := by decide +kernel
theorem dX8_takes_0 : decode cX8_takes 0 = .ok (.aload_n 0, 1) := by decide +kernel
theorem dX8_takes_1 : decode cX8_takes 1 = .ok (.invokevirtual 267, 3) := by decide +kernel
theorem dX8_takes_4 : decode cX8_takes 4 = .ok (.iload_n 1, 1) := by decide +kernel
theorem dX8_takes_5 : decode cX8_takes 5 = .ok (.if_icmp .ne 16, 3) := by decide +kernel
theorem dX8_takes_8 : decode cX8_takes 8 = .ok (.aload_n 0, 1) := by decide +kernel
theorem dX8_takes_9 : decode cX8_takes 9 = .ok (.dup, 1) := by decide +kernel
theorem dX8_takes_10 : decode cX8_takes 10 = .ok (.getfield 87, 3) := by decide +kernel
theorem dX8_takes_13 : decode cX8_takes 13 = .ok (.iconst 1, 1) := by decide +kernel
theorem dX8_takes_14 : decode cX8_takes 14 = .ok (.iadd, 1) := by decide +kernel
theorem dX8_takes_15 : decode cX8_takes 15 = .ok (.putfield 87, 3) := by decide +kernel
theorem dX8_takes_18 : decode cX8_takes 18 = .ok (.goto 8, 3) := by decide +kernel
theorem dX8_takes_21 : decode cX8_takes 21 = .ok (.aload_n 0, 1) := by decide +kernel
theorem dX8_takes_22 : decode cX8_takes 22 = .ok (.iconst 1, 1) := by decide +kernel
theorem dX8_takes_23 : decode cX8_takes 23 = .ok (.putfield 90, 3) := by decide +kernel
theorem dX8_takes_26 : decode cX8_takes 26 = .ok (.return_, 1) := by decide +kernel
theorem dX8_command_0 : decode cX8_command 0 = .ok (.aload_n 0, 1) := by decide +kernel
theorem dX8_command_1 : decode cX8_command 1 = .ok (.invokevirtual 267, 3) := by decide +kernel
theorem dX8_command_4 : decode cX8_command 4 = .ok (.istore_n 1, 1) := by decide +kernel
theorem dX8_command_5 : decode cX8_command 5 = .ok (.aload_n 0, 1) := by decide +kernel
theorem dX8_command_6 : decode cX8_command 6 = .ok (.dup, 1) := by decide +kernel
theorem dX8_command_7 : decode cX8_command 7 = .ok (.getfield 90, 3) := by decide +kernel
theorem dX8_command_10 : decode cX8_command 10 = .ok (.iload_n 1, 1) := by decide +kernel
theorem dX8_command_11 : decode cX8_command 11 = .ok (.bipush 115, 2) := by decide +kernel
theorem dX8_command_13 : decode cX8_command 13 = .ok (.if_icmp .eq 31, 3) := by decide +kernel
theorem dX8_command_16 : decode cX8_command 16 = .ok (.iload_n 1, 1) := by decide +kernel
theorem dX8_command_17 : decode cX8_command 17 = .ok (.bipush 114, 2) := by decide +kernel
theorem dX8_command_19 : decode cX8_command 19 = .ok (.if_icmp .eq 25, 3) := by decide +kernel
theorem dX8_command_22 : decode cX8_command 22 = .ok (.iload_n 1, 1) := by decide +kernel
theorem dX8_command_23 : decode cX8_command 23 = .ok (.bipush 116, 2) := by decide +kernel
theorem dX8_command_25 : decode cX8_command 25 = .ok (.if_icmp .eq 19, 3) := by decide +kernel
theorem dX8_command_28 : decode cX8_command 28 = .ok (.iload_n 1, 1) := by decide +kernel
theorem dX8_command_29 : decode cX8_command 29 = .ok (.bipush 99, 2) := by decide +kernel
theorem dX8_command_31 : decode cX8_command 31 = .ok (.if_icmp .eq 13, 3) := by decide +kernel
theorem dX8_command_34 : decode cX8_command 34 = .ok (.iload_n 1, 1) := by decide +kernel
theorem dX8_command_35 : decode cX8_command 35 = .ok (.bipush 111, 2) := by decide +kernel
theorem dX8_command_37 : decode cX8_command 37 = .ok (.if_icmp .eq 7, 3) := by decide +kernel
theorem dX8_command_40 : decode cX8_command 40 = .ok (.iconst 1, 1) := by decide +kernel
theorem dX8_command_41 : decode cX8_command 41 = .ok (.goto 4, 3) := by decide +kernel
theorem dX8_command_44 : decode cX8_command 44 = .ok (.iconst 0, 1) := by decide +kernel
theorem dX8_command_45 : decode cX8_command 45 = .ok (.ior, 1) := by decide +kernel
theorem dX8_command_46 : decode cX8_command 46 = .ok (.putfield 90, 3) := by decide +kernel
theorem dX8_command_49 : decode cX8_command 49 = .ok (.aload_n 0, 1) := by decide +kernel
theorem dX8_command_50 : decode cX8_command 50 = .ok (.getfield 90, 3) := by decide +kernel
theorem dX8_command_53 : decode cX8_command 53 = .ok (.ifCond .eq 5, 3) := by decide +kernel
theorem dX8_command_56 : decode cX8_command 56 = .ok (.iconst (-1), 1) := by decide +kernel
theorem dX8_command_57 : decode cX8_command 57 = .ok (.ireturn, 1) := by decide +kernel
theorem dX8_command_58 : decode cX8_command 58 = .ok (.aload_n 0, 1) := by decide +kernel
theorem dX8_command_59 : decode cX8_command 59 = .ok (.dup, 1) := by decide +kernel
theorem dX8_command_60 : decode cX8_command 60 = .ok (.getfield 87, 3) := by decide +kernel
theorem dX8_command_63 : decode cX8_command 63 = .ok (.iconst 1, 1) := by decide +kernel
theorem dX8_command_64 : decode cX8_command 64 = .ok (.iadd, 1) := by decide +kernel
theorem dX8_command_65 : decode cX8_command 65 = .ok (.putfield 87, 3) := by decide +kernel
theorem dX8_command_68 : decode cX8_command 68 = .ok (.iload_n 1, 1) := by decide +kernel
theorem dX8_command_69 : decode cX8_command 69 = .ok (.bipush 115, 2) := by decide +kernel
theorem dX8_command_71 : decode cX8_command 71 = .ok (.if_icmp .ne 22, 3) := by decide +kernel
theorem dX8_command_74 : decode cX8_command 74 = .ok (.aload_n 0, 1) := by decide +kernel
theorem dX8_command_75 : decode cX8_command 75 = .ok (.getfield 81, 3) := by decide +kernel
theorem dX8_command_78 : decode cX8_command 78 = .ok (.iconst 1, 1) := by decide +kernel
theorem dX8_command_79 : decode cX8_command 79 = .ok (.aload_n 0, 1) := by decide +kernel
theorem dX8_command_80 : decode cX8_command 80 = .ok (.iconst 1, 1) := by decide +kernel
theorem dX8_command_81 : decode cX8_command 81 = .ok (.bipush 49, 2) := by decide +kernel
theorem dX8_command_83 : decode cX8_command 83 = .ok (.invokevirtual 270, 3) := by decide +kernel
theorem dX8_command_86 : decode cX8_command 86 = .ok (.iastore, 1) := by decide +kernel
theorem dX8_command_87 : decode cX8_command 87 = .ok (.aload_n 0, 1) := by decide +kernel
theorem dX8_command_88 : decode cX8_command 88 = .ok (.bipush 44, 2) := by decide +kernel
theorem dX8_command_90 : decode cX8_command 90 = .ok (.invokevirtual 273, 3) := by decide +kernel
theorem dX8_command_93 : decode cX8_command 93 = .ok (.aload_n 0, 1) := by decide +kernel
theorem dX8_command_94 : decode cX8_command 94 = .ok (.getfield 81, 3) := by decide +kernel
theorem dX8_command_97 : decode cX8_command 97 = .ok (.iconst 0, 1) := by decide +kernel
theorem dX8_command_98 : decode cX8_command 98 = .ok (.aload_n 0, 1) := by decide +kernel
theorem dX8_command_99 : decode cX8_command 99 = .ok (.getfield 90, 3) := by decide +kernel
theorem dX8_command_102 : decode cX8_command 102 = .ok (.ifCond .eq 7, 3) := by decide +kernel
theorem dX8_command_105 : decode cX8_command 105 = .ok (.iconst 0, 1) := by decide +kernel
theorem dX8_command_106 : decode cX8_command 106 = .ok (.goto 10, 3) := by decide +kernel
theorem dX8_command_109 : decode cX8_command 109 = .ok (.aload_n 0, 1) := by decide +kernel
theorem dX8_command_110 : decode cX8_command 110 = .ok (.iconst 4, 1) := by decide +kernel
theorem dX8_command_111 : decode cX8_command 111 = .ok (.bipush 57, 2) := by decide +kernel
theorem dX8_command_113 : decode cX8_command 113 = .ok (.invokevirtual 270, 3) := by decide +kernel
theorem dX8_command_116 : decode cX8_command 116 = .ok (.iastore, 1) := by decide +kernel
theorem dX8_command_117 : decode cX8_command 117 = .ok (.aload_n 0, 1) := by decide +kernel
theorem dX8_command_118 : decode cX8_command 118 = .ok (.bipush 59, 2) := by decide +kernel
theorem dX8_command_120 : decode cX8_command 120 = .ok (.invokevirtual 273, 3) := by decide +kernel
theorem dX8_command_123 : decode cX8_command 123 = .ok (.iload_n 1, 1) := by decide +kernel
theorem dX8_command_124 : decode cX8_command 124 = .ok (.ireturn, 1) := by decide +kernel
theorem dX8_carriesOut_0 : decode cX8_carriesOut 0 = .ok (.iload_n 1, 1) := by decide +kernel
theorem dX8_carriesOut_1 : decode cX8_carriesOut 1 = .ok (.tableswitch 66 114 116 #[44, 27, 55], 27) := by decide +kernel
theorem dX8_carriesOut_28 : decode cX8_carriesOut 28 = .ok (.aload_n 0, 1) := by decide +kernel
theorem dX8_carriesOut_29 : decode cX8_carriesOut 29 = .ok (.aload_n 0, 1) := by decide +kernel
theorem dX8_carriesOut_30 : decode cX8_carriesOut 30 = .ok (.getfield 81, 3) := by decide +kernel
theorem dX8_carriesOut_33 : decode cX8_carriesOut 33 = .ok (.iconst 1, 1) := by decide +kernel
theorem dX8_carriesOut_34 : decode cX8_carriesOut 34 = .ok (.iaload, 1) := by decide +kernel
theorem dX8_carriesOut_35 : decode cX8_carriesOut 35 = .ok (.aload_n 0, 1) := by decide +kernel
theorem dX8_carriesOut_36 : decode cX8_carriesOut 36 = .ok (.getfield 81, 3) := by decide +kernel
theorem dX8_carriesOut_39 : decode cX8_carriesOut 39 = .ok (.iconst 0, 1) := by decide +kernel
theorem dX8_carriesOut_40 : decode cX8_carriesOut 40 = .ok (.iaload, 1) := by decide +kernel
theorem dX8_carriesOut_41 : decode cX8_carriesOut 41 = .ok (.invokevirtual 191, 3) := by decide +kernel
theorem dX8_carriesOut_44 : decode cX8_carriesOut 44 = .ok (.ireturn, 1) := by decide +kernel
theorem dX8_carriesOut_45 : decode cX8_carriesOut 45 = .ok (.aload_n 0, 1) := by decide +kernel
theorem dX8_carriesOut_46 : decode cX8_carriesOut 46 = .ok (.aload_n 0, 1) := by decide +kernel
theorem dX8_carriesOut_47 : decode cX8_carriesOut 47 = .ok (.getfield 81, 3) := by decide +kernel
theorem dX8_carriesOut_50 : decode cX8_carriesOut 50 = .ok (.iconst 0, 1) := by decide +kernel
theorem dX8_carriesOut_51 : decode cX8_carriesOut 51 = .ok (.iaload, 1) := by decide +kernel
theorem dX8_carriesOut_52 : decode cX8_carriesOut 52 = .ok (.invokevirtual 217, 3) := by decide +kernel
theorem dX8_carriesOut_55 : decode cX8_carriesOut 55 = .ok (.ireturn, 1) := by decide +kernel
theorem dX8_carriesOut_56 : decode cX8_carriesOut 56 = .ok (.aload_n 0, 1) := by decide +kernel
theorem dX8_carriesOut_57 : decode cX8_carriesOut 57 = .ok (.aload_n 0, 1) := by decide +kernel
theorem dX8_carriesOut_58 : decode cX8_carriesOut 58 = .ok (.getfield 81, 3) := by decide +kernel
theorem dX8_carriesOut_61 : decode cX8_carriesOut 61 = .ok (.iconst 0, 1) := by decide +kernel
theorem dX8_carriesOut_62 : decode cX8_carriesOut 62 = .ok (.iaload, 1) := by decide +kernel
theorem dX8_carriesOut_63 : decode cX8_carriesOut 63 = .ok (.invokevirtual 264, 3) := by decide +kernel
theorem dX8_carriesOut_66 : decode cX8_carriesOut 66 = .ok (.ireturn, 1) := by decide +kernel
theorem dX8_carriesOut_67 : decode cX8_carriesOut 67 = .ok (.aload_n 0, 1) := by decide +kernel
theorem dX8_carriesOut_68 : decode cX8_carriesOut 68 = .ok (.aload_n 0, 1) := by decide +kernel
theorem dX8_carriesOut_69 : decode cX8_carriesOut 69 = .ok (.getfield 81, 3) := by decide +kernel
theorem dX8_carriesOut_72 : decode cX8_carriesOut 72 = .ok (.iconst 0, 1) := by decide +kernel
theorem dX8_carriesOut_73 : decode cX8_carriesOut 73 = .ok (.iaload, 1) := by decide +kernel
theorem dX8_carriesOut_74 : decode cX8_carriesOut 74 = .ok (.iload_n 1, 1) := by decide +kernel
theorem dX8_carriesOut_75 : decode cX8_carriesOut 75 = .ok (.bipush 99, 2) := by decide +kernel
theorem dX8_carriesOut_77 : decode cX8_carriesOut 77 = .ok (.if_icmp .ne 7, 3) := by decide +kernel
theorem dX8_carriesOut_80 : decode cX8_carriesOut 80 = .ok (.iconst 1, 1) := by decide +kernel
theorem dX8_carriesOut_81 : decode cX8_carriesOut 81 = .ok (.goto 4, 3) := by decide +kernel
theorem dX8_carriesOut_84 : decode cX8_carriesOut 84 = .ok (.iconst 0, 1) := by decide +kernel
theorem dX8_carriesOut_85 : decode cX8_carriesOut 85 = .ok (.invokevirtual 226, 3) := by decide +kernel
theorem dX8_carriesOut_88 : decode cX8_carriesOut 88 = .ok (.ireturn, 1) := by decide +kernel
theorem dX8_perform_0 : decode cX8_perform 0 = .ok (.aload_n 0, 1) := by decide +kernel
theorem dX8_perform_1 : decode cX8_perform 1 = .ok (.invokevirtual 188, 3) := by decide +kernel
theorem dX8_perform_4 : decode cX8_perform 4 = .ok (.aload_n 0, 1) := by decide +kernel
theorem dX8_perform_5 : decode cX8_perform 5 = .ok (.iconst 0, 1) := by decide +kernel
theorem dX8_perform_6 : decode cX8_perform 6 = .ok (.putfield 87, 3) := by decide +kernel
theorem dX8_perform_9 : decode cX8_perform 9 = .ok (.aload_n 0, 1) := by decide +kernel
theorem dX8_perform_10 : decode cX8_perform 10 = .ok (.iconst 0, 1) := by decide +kernel
theorem dX8_perform_11 : decode cX8_perform 11 = .ok (.putfield 90, 3) := by decide +kernel
theorem dX8_perform_14 : decode cX8_perform 14 = .ok (.aload_n 0, 1) := by decide +kernel
theorem dX8_perform_15 : decode cX8_perform 15 = .ok (.invokevirtual 276, 3) := by decide +kernel
theorem dX8_perform_18 : decode cX8_perform 18 = .ok (.istore_n 1, 1) := by decide +kernel
theorem dX8_perform_19 : decode cX8_perform 19 = .ok (.aload_n 0, 1) := by decide +kernel
theorem dX8_perform_20 : decode cX8_perform 20 = .ok (.getfield 90, 3) := by decide +kernel
theorem dX8_perform_23 : decode cX8_perform 23 = .ok (.ifCond .ne 22, 3) := by decide +kernel
theorem dX8_perform_26 : decode cX8_perform 26 = .ok (.aload_n 0, 1) := by decide +kernel
theorem dX8_perform_27 : decode cX8_perform 27 = .ok (.getfield 87, 3) := by decide +kernel
theorem dX8_perform_30 : decode cX8_perform 30 = .ok (.aload_n 0, 1) := by decide +kernel
theorem dX8_perform_31 : decode cX8_perform 31 = .ok (.getfield 84, 3) := by decide +kernel
theorem dX8_perform_34 : decode cX8_perform 34 = .ok (.if_icmp .ge 11, 3) := by decide +kernel
theorem dX8_perform_37 : decode cX8_perform 37 = .ok (.aload_n 0, 1) := by decide +kernel
theorem dX8_perform_38 : decode cX8_perform 38 = .ok (.invokevirtual 276, 3) := by decide +kernel
theorem dX8_perform_41 : decode cX8_perform 41 = .ok (.istore_n 1, 1) := by decide +kernel
theorem dX8_perform_42 : decode cX8_perform 42 = .ok (.goto (-23), 3) := by decide +kernel
theorem dX8_perform_45 : decode cX8_perform 45 = .ok (.aload_n 0, 1) := by decide +kernel
theorem dX8_perform_46 : decode cX8_perform 46 = .ok (.getfield 90, 3) := by decide +kernel
theorem dX8_perform_49 : decode cX8_perform 49 = .ok (.ifCond .eq 16, 3) := by decide +kernel
theorem dX8_perform_52 : decode cX8_perform 52 = .ok (.aload_n 0, 1) := by decide +kernel
theorem dX8_perform_53 : decode cX8_perform 53 = .ok (.iconst 0, 1) := by decide +kernel
theorem dX8_perform_54 : decode cX8_perform 54 = .ok (.putfield 84, 3) := by decide +kernel
theorem dX8_perform_57 : decode cX8_perform 57 = .ok (.bipush (-100), 2) := by decide +kernel
theorem dX8_perform_59 : decode cX8_perform 59 = .ok (.aload_n 0, 1) := by decide +kernel
theorem dX8_perform_60 : decode cX8_perform 60 = .ok (.getfield 87, 3) := by decide +kernel
theorem dX8_perform_63 : decode cX8_perform 63 = .ok (.isub, 1) := by decide +kernel
theorem dX8_perform_64 : decode cX8_perform 64 = .ok (.ireturn, 1) := by decide +kernel
theorem dX8_perform_65 : decode cX8_perform 65 = .ok (.aload_n 0, 1) := by decide +kernel
theorem dX8_perform_66 : decode cX8_perform 66 = .ok (.iconst 0, 1) := by decide +kernel
theorem dX8_perform_67 : decode cX8_perform 67 = .ok (.putfield 87, 3) := by decide +kernel
theorem dX8_perform_70 : decode cX8_perform 70 = .ok (.iconst 0, 1) := by decide +kernel
theorem dX8_perform_71 : decode cX8_perform 71 = .ok (.istore_n 2, 1) := by decide +kernel
theorem dX8_perform_72 : decode cX8_perform 72 = .ok (.aload_n 0, 1) := by decide +kernel
theorem dX8_perform_73 : decode cX8_perform 73 = .ok (.getfield 87, 3) := by decide +kernel
theorem dX8_perform_76 : decode cX8_perform 76 = .ok (.aload_n 0, 1) := by decide +kernel
theorem dX8_perform_77 : decode cX8_perform 77 = .ok (.getfield 84, 3) := by decide +kernel
theorem dX8_perform_80 : decode cX8_perform 80 = .ok (.if_icmp .ge 51, 3) := by decide +kernel
theorem dX8_perform_83 : decode cX8_perform 83 = .ok (.aload_n 0, 1) := by decide +kernel
theorem dX8_perform_84 : decode cX8_perform 84 = .ok (.invokevirtual 276, 3) := by decide +kernel
theorem dX8_perform_87 : decode cX8_perform 87 = .ok (.istore_n 1, 1) := by decide +kernel
theorem dX8_perform_88 : decode cX8_perform 88 = .ok (.aload_n 0, 1) := by decide +kernel
theorem dX8_perform_89 : decode cX8_perform 89 = .ok (.iload_n 1, 1) := by decide +kernel
theorem dX8_perform_90 : decode cX8_perform 90 = .ok (.invokevirtual 279, 3) := by decide +kernel
theorem dX8_perform_93 : decode cX8_perform 93 = .ok (.istore_n 3, 1) := by decide +kernel
theorem dX8_perform_94 : decode cX8_perform 94 = .ok (.aload_n 0, 1) := by decide +kernel
theorem dX8_perform_95 : decode cX8_perform 95 = .ok (.getfield 3, 3) := by decide +kernel
theorem dX8_perform_98 : decode cX8_perform 98 = .ok (.ifCond .eq 27, 3) := by decide +kernel
theorem dX8_perform_101 : decode cX8_perform 101 = .ok (.aload_n 0, 1) := by decide +kernel
theorem dX8_perform_102 : decode cX8_perform 102 = .ok (.getfield 17, 3) := by decide +kernel
theorem dX8_perform_105 : decode cX8_perform 105 = .ok (.iconst 0, 1) := by decide +kernel
theorem dX8_perform_106 : decode cX8_perform 106 = .ok (.aload_n 0, 1) := by decide +kernel
theorem dX8_perform_107 : decode cX8_perform 107 = .ok (.getfield 13, 3) := by decide +kernel
theorem dX8_perform_110 : decode cX8_perform 110 = .ok (.iconst 0, 1) := by decide +kernel
theorem dX8_perform_111 : decode cX8_perform 111 = .ok (.invokestatic 93, 3) := by decide +kernel
theorem dX8_perform_114 : decode cX8_perform 114 = .ok (.aload_n 0, 1) := by decide +kernel
theorem dX8_perform_115 : decode cX8_perform 115 = .ok (.iconst 0, 1) := by decide +kernel
theorem dX8_perform_116 : decode cX8_perform 116 = .ok (.putfield 84, 3) := by decide +kernel
theorem dX8_perform_119 : decode cX8_perform 119 = .ok (.aload_n 0, 1) := by decide +kernel
theorem dX8_perform_120 : decode cX8_perform 120 = .ok (.iconst 1, 1) := by decide +kernel
theorem dX8_perform_121 : decode cX8_perform 121 = .ok (.invokevirtual 177, 3) := by decide +kernel
theorem dX8_perform_124 : decode cX8_perform 124 = .ok (.ireturn, 1) := by decide +kernel
theorem dX8_perform_125 : decode cX8_perform 125 = .ok (.iinc 2 1, 3) := by decide +kernel
theorem dX8_perform_128 : decode cX8_perform 128 = .ok (.goto (-56), 3) := by decide +kernel
theorem dX8_perform_131 : decode cX8_perform 131 = .ok (.aload_n 0, 1) := by decide +kernel
theorem dX8_perform_132 : decode cX8_perform 132 = .ok (.iconst 0, 1) := by decide +kernel
theorem dX8_perform_133 : decode cX8_perform 133 = .ok (.putfield 84, 3) := by decide +kernel
theorem dX8_perform_136 : decode cX8_perform 136 = .ok (.aload_n 0, 1) := by decide +kernel
theorem dX8_perform_137 : decode cX8_perform 137 = .ok (.iload_n 2, 1) := by decide +kernel
theorem dX8_perform_138 : decode cX8_perform 138 = .ok (.invokevirtual 194, 3) := by decide +kernel
theorem dX8_perform_141 : decode cX8_perform 141 = .ok (.ireturn, 1) := by decide +kernel
theorem dX8_stored_0 : decode cX8_stored 0 = .ok (.aload_n 0, 1) := by decide +kernel
theorem dX8_stored_1 : decode cX8_stored 1 = .ok (.getfield 13, 3) := by decide +kernel
theorem dX8_stored_4 : decode cX8_stored 4 = .ok (.iconst 1, 1) := by decide +kernel
theorem dX8_stored_5 : decode cX8_stored 5 = .ok (.iaload, 1) := by decide +kernel
theorem dX8_stored_6 : decode cX8_stored 6 = .ok (.aload_n 0, 1) := by decide +kernel
theorem dX8_stored_7 : decode cX8_stored 7 = .ok (.getfield 13, 3) := by decide +kernel
theorem dX8_stored_10 : decode cX8_stored 10 = .ok (.iconst 2, 1) := by decide +kernel
theorem dX8_stored_11 : decode cX8_stored 11 = .ok (.iaload, 1) := by decide +kernel
theorem dX8_stored_12 : decode cX8_stored 12 = .ok (.isub, 1) := by decide +kernel
theorem dX8_stored_13 : decode cX8_stored 13 = .ok (.ireturn, 1) := by decide +kernel
theorem dX8_undo_0 : decode cX8_undo 0 = .ok (.aload_n 0, 1) := by decide +kernel
theorem dX8_undo_1 : decode cX8_undo 1 = .ok (.iconst 0, 1) := by decide +kernel
theorem dX8_undo_2 : decode cX8_undo 2 = .ok (.putfield 3, 3) := by decide +kernel
theorem dX8_undo_5 : decode cX8_undo 5 = .ok (.aload_n 0, 1) := by decide +kernel
theorem dX8_undo_6 : decode cX8_undo 6 = .ok (.getfield 29, 3) := by decide +kernel
theorem dX8_undo_9 : decode cX8_undo 9 = .ok (.ifCond .ne 9, 3) := by decide +kernel
theorem dX8_undo_12 : decode cX8_undo 12 = .ok (.aload_n 0, 1) := by decide +kernel
theorem dX8_undo_13 : decode cX8_undo 13 = .ok (.iconst 1, 1) := by decide +kernel
theorem dX8_undo_14 : decode cX8_undo 14 = .ok (.invokevirtual 177, 3) := by decide +kernel
theorem dX8_undo_17 : decode cX8_undo 17 = .ok (.ireturn, 1) := by decide +kernel
theorem dX8_undo_18 : decode cX8_undo 18 = .ok (.aload_n 0, 1) := by decide +kernel
theorem dX8_undo_19 : decode cX8_undo 19 = .ok (.dup, 1) := by decide +kernel
theorem dX8_undo_20 : decode cX8_undo 20 = .ok (.getfield 29, 3) := by decide +kernel
theorem dX8_undo_23 : decode cX8_undo 23 = .ok (.iconst 1, 1) := by decide +kernel
theorem dX8_undo_24 : decode cX8_undo 24 = .ok (.isub, 1) := by decide +kernel
theorem dX8_undo_25 : decode cX8_undo 25 = .ok (.putfield 29, 3) := by decide +kernel
theorem dX8_undo_28 : decode cX8_undo 28 = .ok (.aload_n 0, 1) := by decide +kernel
theorem dX8_undo_29 : decode cX8_undo 29 = .ok (.getfield 26, 3) := by decide +kernel
theorem dX8_undo_32 : decode cX8_undo 32 = .ok (.sipush 399, 3) := by decide +kernel
theorem dX8_undo_35 : decode cX8_undo 35 = .ok (.aload_n 0, 1) := by decide +kernel
theorem dX8_undo_36 : decode cX8_undo 36 = .ok (.getfield 29, 3) := by decide +kernel
theorem dX8_undo_39 : decode cX8_undo 39 = .ok (.imul, 1) := by decide +kernel
theorem dX8_undo_40 : decode cX8_undo 40 = .ok (.aload_n 0, 1) := by decide +kernel
theorem dX8_undo_41 : decode cX8_undo 41 = .ok (.getfield 13, 3) := by decide +kernel
theorem dX8_undo_44 : decode cX8_undo 44 = .ok (.iconst 0, 1) := by decide +kernel
theorem dX8_undo_45 : decode cX8_undo 45 = .ok (.invokestatic 93, 3) := by decide +kernel
theorem dX8_undo_48 : decode cX8_undo 48 = .ok (.aload_n 0, 1) := by decide +kernel
theorem dX8_undo_49 : decode cX8_undo 49 = .ok (.getfield 29, 3) := by decide +kernel
theorem dX8_undo_52 : decode cX8_undo 52 = .ok (.ireturn, 1) := by decide +kernel
theorem dX8_save_0 : decode cX8_save 0 = .ok (.aload_n 0, 1) := by decide +kernel
theorem dX8_save_1 : decode cX8_save 1 = .ok (.getfield 13, 3) := by decide +kernel
theorem dX8_save_4 : decode cX8_save 4 = .ok (.iconst 0, 1) := by decide +kernel
theorem dX8_save_5 : decode cX8_save 5 = .ok (.aload_n 0, 1) := by decide +kernel
theorem dX8_save_6 : decode cX8_save 6 = .ok (.getfield 23, 3) := by decide +kernel
theorem dX8_save_9 : decode cX8_save 9 = .ok (.iconst 0, 1) := by decide +kernel
theorem dX8_save_10 : decode cX8_save 10 = .ok (.invokestatic 93, 3) := by decide +kernel
theorem dX8_save_13 : decode cX8_save 13 = .ok (.aload_n 0, 1) := by decide +kernel
theorem dX8_save_14 : decode cX8_save 14 = .ok (.iconst 1, 1) := by decide +kernel
theorem dX8_save_15 : decode cX8_save 15 = .ok (.putfield 32, 3) := by decide +kernel
theorem dX8_save_18 : decode cX8_save 18 = .ok (.aload_n 0, 1) := by decide +kernel
theorem dX8_save_19 : decode cX8_save 19 = .ok (.invokevirtual 282, 3) := by decide +kernel
theorem dX8_save_22 : decode cX8_save 22 = .ok (.ireturn, 1) := by decide +kernel
theorem dX8_restore_0 : decode cX8_restore 0 = .ok (.aload_n 0, 1) := by decide +kernel
theorem dX8_restore_1 : decode cX8_restore 1 = .ok (.iconst 0, 1) := by decide +kernel
theorem dX8_restore_2 : decode cX8_restore 2 = .ok (.putfield 3, 3) := by decide +kernel
theorem dX8_restore_5 : decode cX8_restore 5 = .ok (.aload_n 0, 1) := by decide +kernel
theorem dX8_restore_6 : decode cX8_restore 6 = .ok (.getfield 32, 3) := by decide +kernel
theorem dX8_restore_9 : decode cX8_restore 9 = .ok (.ifCond .ne 9, 3) := by decide +kernel
theorem dX8_restore_12 : decode cX8_restore 12 = .ok (.aload_n 0, 1) := by decide +kernel
theorem dX8_restore_13 : decode cX8_restore 13 = .ok (.iconst 1, 1) := by decide +kernel
theorem dX8_restore_14 : decode cX8_restore 14 = .ok (.invokevirtual 177, 3) := by decide +kernel
theorem dX8_restore_17 : decode cX8_restore 17 = .ok (.ireturn, 1) := by decide +kernel
theorem dX8_restore_18 : decode cX8_restore 18 = .ok (.aload_n 0, 1) := by decide +kernel
theorem dX8_restore_19 : decode cX8_restore 19 = .ok (.getfield 23, 3) := by decide +kernel
theorem dX8_restore_22 : decode cX8_restore 22 = .ok (.iconst 0, 1) := by decide +kernel
theorem dX8_restore_23 : decode cX8_restore 23 = .ok (.aload_n 0, 1) := by decide +kernel
theorem dX8_restore_24 : decode cX8_restore 24 = .ok (.getfield 13, 3) := by decide +kernel
theorem dX8_restore_27 : decode cX8_restore 27 = .ok (.iconst 0, 1) := by decide +kernel
theorem dX8_restore_28 : decode cX8_restore 28 = .ok (.invokestatic 93, 3) := by decide +kernel
theorem dX8_restore_31 : decode cX8_restore 31 = .ok (.aload_n 0, 1) := by decide +kernel
theorem dX8_restore_32 : decode cX8_restore 32 = .ok (.iconst 0, 1) := by decide +kernel
theorem dX8_restore_33 : decode cX8_restore 33 = .ok (.putfield 29, 3) := by decide +kernel
theorem dX8_restore_36 : decode cX8_restore 36 = .ok (.aload_n 0, 1) := by decide +kernel
theorem dX8_restore_37 : decode cX8_restore 37 = .ok (.invokevirtual 282, 3) := by decide +kernel
theorem dX8_restore_40 : decode cX8_restore 40 = .ok (.ireturn, 1) := by decide +kernel
end
section
theorem dL_law_0 : decode cL_law 0 = .ok (.new 8, 3) := by decide +kernel
theorem dL_law_3 : decode cL_law 3 = .ok (.dup, 1) := by decide +kernel
theorem dL_law_4 : decode cL_law 4 = .ok (.invokespecial 109, 3) := by decide +kernel
theorem dL_law_7 : decode cL_law 7 = .ok (.astore_n 1, 1) := by decide +kernel
theorem dL_law_8 : decode cL_law 8 = .ok (.new 110, 3) := by decide +kernel
theorem dL_law_11 : decode cL_law 11 = .ok (.dup, 1) := by decide +kernel
theorem dL_law_12 : decode cL_law 12 = .ok (.invokespecial 112, 3) := by decide +kernel
theorem dL_law_15 : decode cL_law 15 = .ok (.astore_n 2, 1) := by decide +kernel
theorem dL_law_16 : decode cL_law 16 = .ok (.iconst 1, 1) := by decide +kernel
theorem dL_law_17 : decode cL_law 17 = .ok (.newarray .long, 2) := by decide +kernel
theorem dL_law_19 : decode cL_law 19 = .ok (.astore_n 3, 1) := by decide +kernel
theorem dL_law_20 : decode cL_law 20 = .ok (.iconst 1, 1) := by decide +kernel
theorem dL_law_21 : decode cL_law 21 = .ok (.newarray .double, 2) := by decide +kernel
theorem dL_law_23 : decode cL_law 23 = .ok (.astore 4, 2) := by decide +kernel
theorem dL_law_25 : decode cL_law 25 = .ok (.iconst 0, 1) := by decide +kernel
theorem dL_law_26 : decode cL_law 26 = .ok (.istore 5, 2) := by decide +kernel
theorem dL_law_28 : decode cL_law 28 = .ok (.iload 5, 2) := by decide +kernel
theorem dL_law_30 : decode cL_law 30 = .ok (.aload_n 0, 1) := by decide +kernel
theorem dL_law_31 : decode cL_law 31 = .ok (.arraylength, 1) := by decide +kernel
theorem dL_law_32 : decode cL_law 32 = .ok (.iconst 4, 1) := by decide +kernel
theorem dL_law_33 : decode cL_law 33 = .ok (.isub, 1) := by decide +kernel
theorem dL_law_34 : decode cL_law 34 = .ok (.if_icmp .gt 1942, 3) := by decide +kernel
theorem dL_law_37 : decode cL_law 37 = .ok (.aload_n 0, 1) := by decide +kernel
theorem dL_law_38 : decode cL_law 38 = .ok (.iload 5, 2) := by decide +kernel
theorem dL_law_40 : decode cL_law 40 = .ok (.iaload, 1) := by decide +kernel
theorem dL_law_41 : decode cL_law 41 = .ok (.bipush 31, 2) := by decide +kernel
theorem dL_law_43 : decode cL_law 43 = .ok (.iand, 1) := by decide +kernel
theorem dL_law_44 : decode cL_law 44 = .ok (.tableswitch 1926 0 28 #[132, 200, 256, 324, 392, 447, 538, 606, 674, 730, 786, 874, 962, 1062, 1150, 1238, 1251, 1307, 1375, 1388, 1456, 1512, 1590, 1655, 1723, 1781, 1825, 1869, 1882], 132) := by decide +kernel
theorem dL_law_176 : decode cL_law 176 = .ok (.aload_n 1, 1) := by decide +kernel
theorem dL_law_177 : decode cL_law 177 = .ok (.aload_n 0, 1) := by decide +kernel
theorem dL_law_178 : decode cL_law 178 = .ok (.iload 5, 2) := by decide +kernel
theorem dL_law_180 : decode cL_law 180 = .ok (.iconst 1, 1) := by decide +kernel
theorem dL_law_181 : decode cL_law 181 = .ok (.iadd, 1) := by decide +kernel
theorem dL_law_182 : decode cL_law 182 = .ok (.iaload, 1) := by decide +kernel
theorem dL_law_183 : decode cL_law 183 = .ok (.aload_n 0, 1) := by decide +kernel
theorem dL_law_184 : decode cL_law 184 = .ok (.iload 5, 2) := by decide +kernel
theorem dL_law_186 : decode cL_law 186 = .ok (.iconst 2, 1) := by decide +kernel
theorem dL_law_187 : decode cL_law 187 = .ok (.iadd, 1) := by decide +kernel
theorem dL_law_188 : decode cL_law 188 = .ok (.iaload, 1) := by decide +kernel
theorem dL_law_189 : decode cL_law 189 = .ok (.aload_n 3, 1) := by decide +kernel
theorem dL_law_190 : decode cL_law 190 = .ok (.invokestatic 113, 3) := by decide +kernel
theorem dL_law_193 : decode cL_law 193 = .ok (.istore 6, 2) := by decide +kernel
theorem dL_law_195 : decode cL_law 195 = .ok (.aload_n 2, 1) := by decide +kernel
theorem dL_law_196 : decode cL_law 196 = .ok (.aload_n 0, 1) := by decide +kernel
theorem dL_law_197 : decode cL_law 197 = .ok (.iload 5, 2) := by decide +kernel
theorem dL_law_199 : decode cL_law 199 = .ok (.iconst 1, 1) := by decide +kernel
theorem dL_law_200 : decode cL_law 200 = .ok (.iadd, 1) := by decide +kernel
theorem dL_law_201 : decode cL_law 201 = .ok (.iaload, 1) := by decide +kernel
theorem dL_law_202 : decode cL_law 202 = .ok (.aload_n 0, 1) := by decide +kernel
theorem dL_law_203 : decode cL_law 203 = .ok (.iload 5, 2) := by decide +kernel
theorem dL_law_205 : decode cL_law 205 = .ok (.iconst 2, 1) := by decide +kernel
theorem dL_law_206 : decode cL_law 206 = .ok (.iadd, 1) := by decide +kernel
theorem dL_law_207 : decode cL_law 207 = .ok (.iaload, 1) := by decide +kernel
theorem dL_law_208 : decode cL_law 208 = .ok (.invokevirtual 118, 3) := by decide +kernel
theorem dL_law_211 : decode cL_law 211 = .ok (.istore 7, 2) := by decide +kernel
theorem dL_law_213 : decode cL_law 213 = .ok (.aload_n 2, 1) := by decide +kernel
theorem dL_law_214 : decode cL_law 214 = .ok (.invokevirtual 119, 3) := by decide +kernel
theorem dL_law_217 : decode cL_law 217 = .ok (.iload 6, 2) := by decide +kernel
theorem dL_law_219 : decode cL_law 219 = .ok (.if_icmp .eq 5, 3) := by decide +kernel
theorem dL_law_222 : decode cL_law 222 = .ok (.iconst 0, 1) := by decide +kernel
theorem dL_law_223 : decode cL_law 223 = .ok (.ireturn, 1) := by decide +kernel
theorem dL_law_224 : decode cL_law 224 = .ok (.iload 6, 2) := by decide +kernel
theorem dL_law_226 : decode cL_law 226 = .ok (.ifCond .ne 15, 3) := by decide +kernel
theorem dL_law_229 : decode cL_law 229 = .ok (.aload_n 3, 1) := by decide +kernel
theorem dL_law_230 : decode cL_law 230 = .ok (.iconst 0, 1) := by decide +kernel
theorem dL_law_231 : decode cL_law 231 = .ok (.laload, 1) := by decide +kernel
theorem dL_law_232 : decode cL_law 232 = .ok (.iload 7, 2) := by decide +kernel
theorem dL_law_234 : decode cL_law 234 = .ok (.i2l, 1) := by decide +kernel
theorem dL_law_235 : decode cL_law 235 = .ok (.lcmp, 1) := by decide +kernel
theorem dL_law_236 : decode cL_law 236 = .ok (.ifCond .eq 5, 3) := by decide +kernel
theorem dL_law_239 : decode cL_law 239 = .ok (.iconst 0, 1) := by decide +kernel
theorem dL_law_240 : decode cL_law 240 = .ok (.ireturn, 1) := by decide +kernel
theorem dL_law_241 : decode cL_law 241 = .ok (.goto 1729, 3) := by decide +kernel
theorem dL_law_244 : decode cL_law 244 = .ok (.aload_n 1, 1) := by decide +kernel
theorem dL_law_245 : decode cL_law 245 = .ok (.aload_n 0, 1) := by decide +kernel
theorem dL_law_246 : decode cL_law 246 = .ok (.iload 5, 2) := by decide +kernel
theorem dL_law_248 : decode cL_law 248 = .ok (.iconst 1, 1) := by decide +kernel
theorem dL_law_249 : decode cL_law 249 = .ok (.iadd, 1) := by decide +kernel
theorem dL_law_250 : decode cL_law 250 = .ok (.iaload, 1) := by decide +kernel
theorem dL_law_251 : decode cL_law 251 = .ok (.aload_n 3, 1) := by decide +kernel
theorem dL_law_252 : decode cL_law 252 = .ok (.invokestatic 122, 3) := by decide +kernel
theorem dL_law_255 : decode cL_law 255 = .ok (.istore 6, 2) := by decide +kernel
theorem dL_law_257 : decode cL_law 257 = .ok (.aload_n 2, 1) := by decide +kernel
theorem dL_law_258 : decode cL_law 258 = .ok (.aload_n 0, 1) := by decide +kernel
theorem dL_law_259 : decode cL_law 259 = .ok (.iload 5, 2) := by decide +kernel
theorem dL_law_261 : decode cL_law 261 = .ok (.iconst 1, 1) := by decide +kernel
theorem dL_law_262 : decode cL_law 262 = .ok (.iadd, 1) := by decide +kernel
theorem dL_law_263 : decode cL_law 263 = .ok (.iaload, 1) := by decide +kernel
theorem dL_law_264 : decode cL_law 264 = .ok (.invokevirtual 125, 3) := by decide +kernel
theorem dL_law_267 : decode cL_law 267 = .ok (.istore 7, 2) := by decide +kernel
theorem dL_law_269 : decode cL_law 269 = .ok (.aload_n 2, 1) := by decide +kernel
theorem dL_law_270 : decode cL_law 270 = .ok (.invokevirtual 119, 3) := by decide +kernel
theorem dL_law_273 : decode cL_law 273 = .ok (.iload 6, 2) := by decide +kernel
theorem dL_law_275 : decode cL_law 275 = .ok (.if_icmp .eq 5, 3) := by decide +kernel
theorem dL_law_278 : decode cL_law 278 = .ok (.iconst 0, 1) := by decide +kernel
theorem dL_law_279 : decode cL_law 279 = .ok (.ireturn, 1) := by decide +kernel
theorem dL_law_280 : decode cL_law 280 = .ok (.iload 6, 2) := by decide +kernel
theorem dL_law_282 : decode cL_law 282 = .ok (.ifCond .ne 15, 3) := by decide +kernel
theorem dL_law_285 : decode cL_law 285 = .ok (.aload_n 3, 1) := by decide +kernel
theorem dL_law_286 : decode cL_law 286 = .ok (.iconst 0, 1) := by decide +kernel
theorem dL_law_287 : decode cL_law 287 = .ok (.laload, 1) := by decide +kernel
theorem dL_law_288 : decode cL_law 288 = .ok (.iload 7, 2) := by decide +kernel
theorem dL_law_290 : decode cL_law 290 = .ok (.i2l, 1) := by decide +kernel
theorem dL_law_291 : decode cL_law 291 = .ok (.lcmp, 1) := by decide +kernel
theorem dL_law_292 : decode cL_law 292 = .ok (.ifCond .eq 5, 3) := by decide +kernel
theorem dL_law_295 : decode cL_law 295 = .ok (.iconst 0, 1) := by decide +kernel
theorem dL_law_296 : decode cL_law 296 = .ok (.ireturn, 1) := by decide +kernel
theorem dL_law_297 : decode cL_law 297 = .ok (.goto 1673, 3) := by decide +kernel
theorem dL_law_300 : decode cL_law 300 = .ok (.aload_n 1, 1) := by decide +kernel
theorem dL_law_301 : decode cL_law 301 = .ok (.aload_n 0, 1) := by decide +kernel
theorem dL_law_302 : decode cL_law 302 = .ok (.iload 5, 2) := by decide +kernel
theorem dL_law_304 : decode cL_law 304 = .ok (.iconst 1, 1) := by decide +kernel
theorem dL_law_305 : decode cL_law 305 = .ok (.iadd, 1) := by decide +kernel
theorem dL_law_306 : decode cL_law 306 = .ok (.iaload, 1) := by decide +kernel
theorem dL_law_307 : decode cL_law 307 = .ok (.aload_n 0, 1) := by decide +kernel
theorem dL_law_308 : decode cL_law 308 = .ok (.iload 5, 2) := by decide +kernel
theorem dL_law_310 : decode cL_law 310 = .ok (.iconst 2, 1) := by decide +kernel
theorem dL_law_311 : decode cL_law 311 = .ok (.iadd, 1) := by decide +kernel
theorem dL_law_312 : decode cL_law 312 = .ok (.iaload, 1) := by decide +kernel
theorem dL_law_313 : decode cL_law 313 = .ok (.aload_n 3, 1) := by decide +kernel
theorem dL_law_314 : decode cL_law 314 = .ok (.invokestatic 126, 3) := by decide +kernel
theorem dL_law_317 : decode cL_law 317 = .ok (.istore 6, 2) := by decide +kernel
theorem dL_law_319 : decode cL_law 319 = .ok (.aload_n 2, 1) := by decide +kernel
theorem dL_law_320 : decode cL_law 320 = .ok (.aload_n 0, 1) := by decide +kernel
theorem dL_law_321 : decode cL_law 321 = .ok (.iload 5, 2) := by decide +kernel
theorem dL_law_323 : decode cL_law 323 = .ok (.iconst 1, 1) := by decide +kernel
theorem dL_law_324 : decode cL_law 324 = .ok (.iadd, 1) := by decide +kernel
theorem dL_law_325 : decode cL_law 325 = .ok (.iaload, 1) := by decide +kernel
theorem dL_law_326 : decode cL_law 326 = .ok (.aload_n 0, 1) := by decide +kernel
theorem dL_law_327 : decode cL_law 327 = .ok (.iload 5, 2) := by decide +kernel
theorem dL_law_329 : decode cL_law 329 = .ok (.iconst 2, 1) := by decide +kernel
theorem dL_law_330 : decode cL_law 330 = .ok (.iadd, 1) := by decide +kernel
theorem dL_law_331 : decode cL_law 331 = .ok (.iaload, 1) := by decide +kernel
theorem dL_law_332 : decode cL_law 332 = .ok (.invokevirtual 128, 3) := by decide +kernel
theorem dL_law_335 : decode cL_law 335 = .ok (.istore 7, 2) := by decide +kernel
theorem dL_law_337 : decode cL_law 337 = .ok (.aload_n 2, 1) := by decide +kernel
theorem dL_law_338 : decode cL_law 338 = .ok (.invokevirtual 119, 3) := by decide +kernel
theorem dL_law_341 : decode cL_law 341 = .ok (.iload 6, 2) := by decide +kernel
theorem dL_law_343 : decode cL_law 343 = .ok (.if_icmp .eq 5, 3) := by decide +kernel
theorem dL_law_346 : decode cL_law 346 = .ok (.iconst 0, 1) := by decide +kernel
theorem dL_law_347 : decode cL_law 347 = .ok (.ireturn, 1) := by decide +kernel
theorem dL_law_348 : decode cL_law 348 = .ok (.iload 6, 2) := by decide +kernel
theorem dL_law_350 : decode cL_law 350 = .ok (.ifCond .ne 15, 3) := by decide +kernel
theorem dL_law_353 : decode cL_law 353 = .ok (.aload_n 3, 1) := by decide +kernel
theorem dL_law_354 : decode cL_law 354 = .ok (.iconst 0, 1) := by decide +kernel
theorem dL_law_355 : decode cL_law 355 = .ok (.laload, 1) := by decide +kernel
theorem dL_law_356 : decode cL_law 356 = .ok (.iload 7, 2) := by decide +kernel
theorem dL_law_358 : decode cL_law 358 = .ok (.i2l, 1) := by decide +kernel
theorem dL_law_359 : decode cL_law 359 = .ok (.lcmp, 1) := by decide +kernel
theorem dL_law_360 : decode cL_law 360 = .ok (.ifCond .eq 5, 3) := by decide +kernel
theorem dL_law_363 : decode cL_law 363 = .ok (.iconst 0, 1) := by decide +kernel
theorem dL_law_364 : decode cL_law 364 = .ok (.ireturn, 1) := by decide +kernel
theorem dL_law_365 : decode cL_law 365 = .ok (.goto 1605, 3) := by decide +kernel
theorem dL_law_368 : decode cL_law 368 = .ok (.aload_n 1, 1) := by decide +kernel
theorem dL_law_369 : decode cL_law 369 = .ok (.aload_n 0, 1) := by decide +kernel
theorem dL_law_370 : decode cL_law 370 = .ok (.iload 5, 2) := by decide +kernel
theorem dL_law_372 : decode cL_law 372 = .ok (.iconst 1, 1) := by decide +kernel
theorem dL_law_373 : decode cL_law 373 = .ok (.iadd, 1) := by decide +kernel
theorem dL_law_374 : decode cL_law 374 = .ok (.iaload, 1) := by decide +kernel
theorem dL_law_375 : decode cL_law 375 = .ok (.aload_n 0, 1) := by decide +kernel
theorem dL_law_376 : decode cL_law 376 = .ok (.iload 5, 2) := by decide +kernel
theorem dL_law_378 : decode cL_law 378 = .ok (.iconst 2, 1) := by decide +kernel
theorem dL_law_379 : decode cL_law 379 = .ok (.iadd, 1) := by decide +kernel
theorem dL_law_380 : decode cL_law 380 = .ok (.iaload, 1) := by decide +kernel
theorem dL_law_381 : decode cL_law 381 = .ok (.aload_n 3, 1) := by decide +kernel
theorem dL_law_382 : decode cL_law 382 = .ok (.invokestatic 129, 3) := by decide +kernel
theorem dL_law_385 : decode cL_law 385 = .ok (.istore 6, 2) := by decide +kernel
theorem dL_law_387 : decode cL_law 387 = .ok (.aload_n 2, 1) := by decide +kernel
theorem dL_law_388 : decode cL_law 388 = .ok (.aload_n 0, 1) := by decide +kernel
theorem dL_law_389 : decode cL_law 389 = .ok (.iload 5, 2) := by decide +kernel
theorem dL_law_391 : decode cL_law 391 = .ok (.iconst 1, 1) := by decide +kernel
theorem dL_law_392 : decode cL_law 392 = .ok (.iadd, 1) := by decide +kernel
theorem dL_law_393 : decode cL_law 393 = .ok (.iaload, 1) := by decide +kernel
theorem dL_law_394 : decode cL_law 394 = .ok (.aload_n 0, 1) := by decide +kernel
theorem dL_law_395 : decode cL_law 395 = .ok (.iload 5, 2) := by decide +kernel
theorem dL_law_397 : decode cL_law 397 = .ok (.iconst 2, 1) := by decide +kernel
theorem dL_law_398 : decode cL_law 398 = .ok (.iadd, 1) := by decide +kernel
theorem dL_law_399 : decode cL_law 399 = .ok (.iaload, 1) := by decide +kernel
theorem dL_law_400 : decode cL_law 400 = .ok (.invokevirtual 131, 3) := by decide +kernel
theorem dL_law_403 : decode cL_law 403 = .ok (.istore 7, 2) := by decide +kernel
theorem dL_law_405 : decode cL_law 405 = .ok (.aload_n 2, 1) := by decide +kernel
theorem dL_law_406 : decode cL_law 406 = .ok (.invokevirtual 119, 3) := by decide +kernel
theorem dL_law_409 : decode cL_law 409 = .ok (.iload 6, 2) := by decide +kernel
theorem dL_law_411 : decode cL_law 411 = .ok (.if_icmp .eq 5, 3) := by decide +kernel
theorem dL_law_414 : decode cL_law 414 = .ok (.iconst 0, 1) := by decide +kernel
theorem dL_law_415 : decode cL_law 415 = .ok (.ireturn, 1) := by decide +kernel
theorem dL_law_416 : decode cL_law 416 = .ok (.iload 6, 2) := by decide +kernel
theorem dL_law_418 : decode cL_law 418 = .ok (.ifCond .ne 15, 3) := by decide +kernel
theorem dL_law_421 : decode cL_law 421 = .ok (.aload_n 3, 1) := by decide +kernel
theorem dL_law_422 : decode cL_law 422 = .ok (.iconst 0, 1) := by decide +kernel
theorem dL_law_423 : decode cL_law 423 = .ok (.laload, 1) := by decide +kernel
theorem dL_law_424 : decode cL_law 424 = .ok (.iload 7, 2) := by decide +kernel
theorem dL_law_426 : decode cL_law 426 = .ok (.i2l, 1) := by decide +kernel
theorem dL_law_427 : decode cL_law 427 = .ok (.lcmp, 1) := by decide +kernel
theorem dL_law_428 : decode cL_law 428 = .ok (.ifCond .eq 5, 3) := by decide +kernel
theorem dL_law_431 : decode cL_law 431 = .ok (.iconst 0, 1) := by decide +kernel
theorem dL_law_432 : decode cL_law 432 = .ok (.ireturn, 1) := by decide +kernel
theorem dL_law_433 : decode cL_law 433 = .ok (.goto 1537, 3) := by decide +kernel
theorem dL_law_436 : decode cL_law 436 = .ok (.aload_n 1, 1) := by decide +kernel
theorem dL_law_437 : decode cL_law 437 = .ok (.aload_n 0, 1) := by decide +kernel
theorem dL_law_438 : decode cL_law 438 = .ok (.iload 5, 2) := by decide +kernel
theorem dL_law_440 : decode cL_law 440 = .ok (.iconst 1, 1) := by decide +kernel
theorem dL_law_441 : decode cL_law 441 = .ok (.iadd, 1) := by decide +kernel
theorem dL_law_442 : decode cL_law 442 = .ok (.iaload, 1) := by decide +kernel
theorem dL_law_443 : decode cL_law 443 = .ok (.aload_n 3, 1) := by decide +kernel
theorem dL_law_444 : decode cL_law 444 = .ok (.invokestatic 132, 3) := by decide +kernel
theorem dL_law_447 : decode cL_law 447 = .ok (.istore 6, 2) := by decide +kernel
theorem dL_law_449 : decode cL_law 449 = .ok (.aload_n 2, 1) := by decide +kernel
theorem dL_law_450 : decode cL_law 450 = .ok (.aload_n 0, 1) := by decide +kernel
theorem dL_law_451 : decode cL_law 451 = .ok (.iload 5, 2) := by decide +kernel
theorem dL_law_453 : decode cL_law 453 = .ok (.iconst 1, 1) := by decide +kernel
theorem dL_law_454 : decode cL_law 454 = .ok (.iadd, 1) := by decide +kernel
theorem dL_law_455 : decode cL_law 455 = .ok (.iaload, 1) := by decide +kernel
theorem dL_law_456 : decode cL_law 456 = .ok (.invokevirtual 134, 3) := by decide +kernel
theorem dL_law_459 : decode cL_law 459 = .ok (.lstore 7, 2) := by decide +kernel
theorem dL_law_461 : decode cL_law 461 = .ok (.aload_n 2, 1) := by decide +kernel
theorem dL_law_462 : decode cL_law 462 = .ok (.invokevirtual 119, 3) := by decide +kernel
theorem dL_law_465 : decode cL_law 465 = .ok (.iload 6, 2) := by decide +kernel
theorem dL_law_467 : decode cL_law 467 = .ok (.if_icmp .eq 5, 3) := by decide +kernel
theorem dL_law_470 : decode cL_law 470 = .ok (.iconst 0, 1) := by decide +kernel
theorem dL_law_471 : decode cL_law 471 = .ok (.ireturn, 1) := by decide +kernel
theorem dL_law_472 : decode cL_law 472 = .ok (.iload 6, 2) := by decide +kernel
theorem dL_law_474 : decode cL_law 474 = .ok (.ifCond .ne 14, 3) := by decide +kernel
theorem dL_law_477 : decode cL_law 477 = .ok (.aload_n 3, 1) := by decide +kernel
theorem dL_law_478 : decode cL_law 478 = .ok (.iconst 0, 1) := by decide +kernel
theorem dL_law_479 : decode cL_law 479 = .ok (.laload, 1) := by decide +kernel
theorem dL_law_480 : decode cL_law 480 = .ok (.lload 7, 2) := by decide +kernel
theorem dL_law_482 : decode cL_law 482 = .ok (.lcmp, 1) := by decide +kernel
theorem dL_law_483 : decode cL_law 483 = .ok (.ifCond .eq 5, 3) := by decide +kernel
theorem dL_law_486 : decode cL_law 486 = .ok (.iconst 0, 1) := by decide +kernel
theorem dL_law_487 : decode cL_law 487 = .ok (.ireturn, 1) := by decide +kernel
theorem dL_law_488 : decode cL_law 488 = .ok (.goto 1482, 3) := by decide +kernel
theorem dL_law_491 : decode cL_law 491 = .ok (.aload_n 1, 1) := by decide +kernel
theorem dL_law_492 : decode cL_law 492 = .ok (.aload_n 0, 1) := by decide +kernel
theorem dL_law_493 : decode cL_law 493 = .ok (.iload 5, 2) := by decide +kernel
theorem dL_law_495 : decode cL_law 495 = .ok (.iconst 1, 1) := by decide +kernel
theorem dL_law_496 : decode cL_law 496 = .ok (.iadd, 1) := by decide +kernel
theorem dL_law_497 : decode cL_law 497 = .ok (.iaload, 1) := by decide +kernel
theorem dL_law_498 : decode cL_law 498 = .ok (.aload_n 0, 1) := by decide +kernel
theorem dL_law_499 : decode cL_law 499 = .ok (.iload 5, 2) := by decide +kernel
theorem dL_law_501 : decode cL_law 501 = .ok (.iconst 2, 1) := by decide +kernel
theorem dL_law_502 : decode cL_law 502 = .ok (.iadd, 1) := by decide +kernel
theorem dL_law_503 : decode cL_law 503 = .ok (.iaload, 1) := by decide +kernel
theorem dL_law_504 : decode cL_law 504 = .ok (.ifCond .eq 7, 3) := by decide +kernel
theorem dL_law_507 : decode cL_law 507 = .ok (.iconst 1, 1) := by decide +kernel
theorem dL_law_508 : decode cL_law 508 = .ok (.goto 4, 3) := by decide +kernel
theorem dL_law_511 : decode cL_law 511 = .ok (.iconst 0, 1) := by decide +kernel
theorem dL_law_512 : decode cL_law 512 = .ok (.aload_n 3, 1) := by decide +kernel
theorem dL_law_513 : decode cL_law 513 = .ok (.invokestatic 135, 3) := by decide +kernel
theorem dL_law_516 : decode cL_law 516 = .ok (.istore 6, 2) := by decide +kernel
theorem dL_law_518 : decode cL_law 518 = .ok (.aload_n 2, 1) := by decide +kernel
theorem dL_law_519 : decode cL_law 519 = .ok (.aload_n 0, 1) := by decide +kernel
theorem dL_law_520 : decode cL_law 520 = .ok (.iload 5, 2) := by decide +kernel
theorem dL_law_522 : decode cL_law 522 = .ok (.iconst 1, 1) := by decide +kernel
theorem dL_law_523 : decode cL_law 523 = .ok (.iadd, 1) := by decide +kernel
theorem dL_law_524 : decode cL_law 524 = .ok (.iaload, 1) := by decide +kernel
theorem dL_law_525 : decode cL_law 525 = .ok (.aload_n 0, 1) := by decide +kernel
theorem dL_law_526 : decode cL_law 526 = .ok (.iload 5, 2) := by decide +kernel
theorem dL_law_528 : decode cL_law 528 = .ok (.iconst 2, 1) := by decide +kernel
theorem dL_law_529 : decode cL_law 529 = .ok (.iadd, 1) := by decide +kernel
theorem dL_law_530 : decode cL_law 530 = .ok (.iaload, 1) := by decide +kernel
theorem dL_law_531 : decode cL_law 531 = .ok (.ifCond .eq 7, 3) := by decide +kernel
theorem dL_law_534 : decode cL_law 534 = .ok (.iconst 1, 1) := by decide +kernel
theorem dL_law_535 : decode cL_law 535 = .ok (.goto 4, 3) := by decide +kernel
theorem dL_law_538 : decode cL_law 538 = .ok (.iconst 0, 1) := by decide +kernel
theorem dL_law_539 : decode cL_law 539 = .ok (.invokevirtual 138, 3) := by decide +kernel
theorem dL_law_542 : decode cL_law 542 = .ok (.istore 7, 2) := by decide +kernel
theorem dL_law_544 : decode cL_law 544 = .ok (.aload_n 2, 1) := by decide +kernel
theorem dL_law_545 : decode cL_law 545 = .ok (.invokevirtual 119, 3) := by decide +kernel
theorem dL_law_548 : decode cL_law 548 = .ok (.iload 6, 2) := by decide +kernel
theorem dL_law_550 : decode cL_law 550 = .ok (.if_icmp .eq 5, 3) := by decide +kernel
theorem dL_law_553 : decode cL_law 553 = .ok (.iconst 0, 1) := by decide +kernel
theorem dL_law_554 : decode cL_law 554 = .ok (.ireturn, 1) := by decide +kernel
theorem dL_law_555 : decode cL_law 555 = .ok (.iload 6, 2) := by decide +kernel
theorem dL_law_557 : decode cL_law 557 = .ok (.ifCond .ne 22, 3) := by decide +kernel
theorem dL_law_560 : decode cL_law 560 = .ok (.aload_n 3, 1) := by decide +kernel
theorem dL_law_561 : decode cL_law 561 = .ok (.iconst 0, 1) := by decide +kernel
theorem dL_law_562 : decode cL_law 562 = .ok (.laload, 1) := by decide +kernel
theorem dL_law_563 : decode cL_law 563 = .ok (.iload 7, 2) := by decide +kernel
theorem dL_law_565 : decode cL_law 565 = .ok (.ifCond .eq 7, 3) := by decide +kernel
theorem dL_law_568 : decode cL_law 568 = .ok (.lconst 1, 1) := by decide +kernel
theorem dL_law_569 : decode cL_law 569 = .ok (.goto 4, 3) := by decide +kernel
theorem dL_law_572 : decode cL_law 572 = .ok (.lconst 0, 1) := by decide +kernel
theorem dL_law_573 : decode cL_law 573 = .ok (.lcmp, 1) := by decide +kernel
theorem dL_law_574 : decode cL_law 574 = .ok (.ifCond .eq 5, 3) := by decide +kernel
theorem dL_law_577 : decode cL_law 577 = .ok (.iconst 0, 1) := by decide +kernel
theorem dL_law_578 : decode cL_law 578 = .ok (.ireturn, 1) := by decide +kernel
theorem dL_law_579 : decode cL_law 579 = .ok (.goto 1391, 3) := by decide +kernel
theorem dL_law_582 : decode cL_law 582 = .ok (.aload_n 1, 1) := by decide +kernel
theorem dL_law_583 : decode cL_law 583 = .ok (.aload_n 0, 1) := by decide +kernel
theorem dL_law_584 : decode cL_law 584 = .ok (.iload 5, 2) := by decide +kernel
theorem dL_law_586 : decode cL_law 586 = .ok (.iconst 1, 1) := by decide +kernel
theorem dL_law_587 : decode cL_law 587 = .ok (.iadd, 1) := by decide +kernel
theorem dL_law_588 : decode cL_law 588 = .ok (.iaload, 1) := by decide +kernel
theorem dL_law_589 : decode cL_law 589 = .ok (.aload_n 0, 1) := by decide +kernel
theorem dL_law_590 : decode cL_law 590 = .ok (.iload 5, 2) := by decide +kernel
theorem dL_law_592 : decode cL_law 592 = .ok (.iconst 2, 1) := by decide +kernel
theorem dL_law_593 : decode cL_law 593 = .ok (.iadd, 1) := by decide +kernel
theorem dL_law_594 : decode cL_law 594 = .ok (.iaload, 1) := by decide +kernel
theorem dL_law_595 : decode cL_law 595 = .ok (.aload_n 3, 1) := by decide +kernel
theorem dL_law_596 : decode cL_law 596 = .ok (.invokestatic 139, 3) := by decide +kernel
theorem dL_law_599 : decode cL_law 599 = .ok (.istore 6, 2) := by decide +kernel
theorem dL_law_601 : decode cL_law 601 = .ok (.aload_n 2, 1) := by decide +kernel
theorem dL_law_602 : decode cL_law 602 = .ok (.aload_n 0, 1) := by decide +kernel
theorem dL_law_603 : decode cL_law 603 = .ok (.iload 5, 2) := by decide +kernel
theorem dL_law_605 : decode cL_law 605 = .ok (.iconst 1, 1) := by decide +kernel
theorem dL_law_606 : decode cL_law 606 = .ok (.iadd, 1) := by decide +kernel
theorem dL_law_607 : decode cL_law 607 = .ok (.iaload, 1) := by decide +kernel
theorem dL_law_608 : decode cL_law 608 = .ok (.aload_n 0, 1) := by decide +kernel
theorem dL_law_609 : decode cL_law 609 = .ok (.iload 5, 2) := by decide +kernel
theorem dL_law_611 : decode cL_law 611 = .ok (.iconst 2, 1) := by decide +kernel
theorem dL_law_612 : decode cL_law 612 = .ok (.iadd, 1) := by decide +kernel
theorem dL_law_613 : decode cL_law 613 = .ok (.iaload, 1) := by decide +kernel
theorem dL_law_614 : decode cL_law 614 = .ok (.invokevirtual 141, 3) := by decide +kernel
theorem dL_law_617 : decode cL_law 617 = .ok (.istore 7, 2) := by decide +kernel
theorem dL_law_619 : decode cL_law 619 = .ok (.aload_n 2, 1) := by decide +kernel
theorem dL_law_620 : decode cL_law 620 = .ok (.invokevirtual 119, 3) := by decide +kernel
theorem dL_law_623 : decode cL_law 623 = .ok (.iload 6, 2) := by decide +kernel
theorem dL_law_625 : decode cL_law 625 = .ok (.if_icmp .eq 5, 3) := by decide +kernel
theorem dL_law_628 : decode cL_law 628 = .ok (.iconst 0, 1) := by decide +kernel
theorem dL_law_629 : decode cL_law 629 = .ok (.ireturn, 1) := by decide +kernel
theorem dL_law_630 : decode cL_law 630 = .ok (.iload 6, 2) := by decide +kernel
theorem dL_law_632 : decode cL_law 632 = .ok (.ifCond .ne 15, 3) := by decide +kernel
theorem dL_law_635 : decode cL_law 635 = .ok (.aload_n 3, 1) := by decide +kernel
theorem dL_law_636 : decode cL_law 636 = .ok (.iconst 0, 1) := by decide +kernel
theorem dL_law_637 : decode cL_law 637 = .ok (.laload, 1) := by decide +kernel
theorem dL_law_638 : decode cL_law 638 = .ok (.iload 7, 2) := by decide +kernel
theorem dL_law_640 : decode cL_law 640 = .ok (.i2l, 1) := by decide +kernel
theorem dL_law_641 : decode cL_law 641 = .ok (.lcmp, 1) := by decide +kernel
theorem dL_law_642 : decode cL_law 642 = .ok (.ifCond .eq 5, 3) := by decide +kernel
theorem dL_law_645 : decode cL_law 645 = .ok (.iconst 0, 1) := by decide +kernel
theorem dL_law_646 : decode cL_law 646 = .ok (.ireturn, 1) := by decide +kernel
theorem dL_law_647 : decode cL_law 647 = .ok (.goto 1323, 3) := by decide +kernel
theorem dL_law_650 : decode cL_law 650 = .ok (.aload_n 1, 1) := by decide +kernel
theorem dL_law_651 : decode cL_law 651 = .ok (.aload_n 0, 1) := by decide +kernel
theorem dL_law_652 : decode cL_law 652 = .ok (.iload 5, 2) := by decide +kernel
theorem dL_law_654 : decode cL_law 654 = .ok (.iconst 1, 1) := by decide +kernel
theorem dL_law_655 : decode cL_law 655 = .ok (.iadd, 1) := by decide +kernel
theorem dL_law_656 : decode cL_law 656 = .ok (.iaload, 1) := by decide +kernel
theorem dL_law_657 : decode cL_law 657 = .ok (.aload_n 0, 1) := by decide +kernel
theorem dL_law_658 : decode cL_law 658 = .ok (.iload 5, 2) := by decide +kernel
theorem dL_law_660 : decode cL_law 660 = .ok (.iconst 2, 1) := by decide +kernel
theorem dL_law_661 : decode cL_law 661 = .ok (.iadd, 1) := by decide +kernel
theorem dL_law_662 : decode cL_law 662 = .ok (.iaload, 1) := by decide +kernel
theorem dL_law_663 : decode cL_law 663 = .ok (.aload_n 3, 1) := by decide +kernel
theorem dL_law_664 : decode cL_law 664 = .ok (.invokestatic 142, 3) := by decide +kernel
theorem dL_law_667 : decode cL_law 667 = .ok (.istore 6, 2) := by decide +kernel
theorem dL_law_669 : decode cL_law 669 = .ok (.aload_n 2, 1) := by decide +kernel
theorem dL_law_670 : decode cL_law 670 = .ok (.aload_n 0, 1) := by decide +kernel
theorem dL_law_671 : decode cL_law 671 = .ok (.iload 5, 2) := by decide +kernel
theorem dL_law_673 : decode cL_law 673 = .ok (.iconst 1, 1) := by decide +kernel
theorem dL_law_674 : decode cL_law 674 = .ok (.iadd, 1) := by decide +kernel
theorem dL_law_675 : decode cL_law 675 = .ok (.iaload, 1) := by decide +kernel
theorem dL_law_676 : decode cL_law 676 = .ok (.aload_n 0, 1) := by decide +kernel
theorem dL_law_677 : decode cL_law 677 = .ok (.iload 5, 2) := by decide +kernel
theorem dL_law_679 : decode cL_law 679 = .ok (.iconst 2, 1) := by decide +kernel
theorem dL_law_680 : decode cL_law 680 = .ok (.iadd, 1) := by decide +kernel
theorem dL_law_681 : decode cL_law 681 = .ok (.iaload, 1) := by decide +kernel
theorem dL_law_682 : decode cL_law 682 = .ok (.invokevirtual 144, 3) := by decide +kernel
theorem dL_law_685 : decode cL_law 685 = .ok (.istore 7, 2) := by decide +kernel
theorem dL_law_687 : decode cL_law 687 = .ok (.aload_n 2, 1) := by decide +kernel
theorem dL_law_688 : decode cL_law 688 = .ok (.invokevirtual 119, 3) := by decide +kernel
theorem dL_law_691 : decode cL_law 691 = .ok (.iload 6, 2) := by decide +kernel
theorem dL_law_693 : decode cL_law 693 = .ok (.if_icmp .eq 5, 3) := by decide +kernel
theorem dL_law_696 : decode cL_law 696 = .ok (.iconst 0, 1) := by decide +kernel
theorem dL_law_697 : decode cL_law 697 = .ok (.ireturn, 1) := by decide +kernel
theorem dL_law_698 : decode cL_law 698 = .ok (.iload 6, 2) := by decide +kernel
theorem dL_law_700 : decode cL_law 700 = .ok (.ifCond .ne 15, 3) := by decide +kernel
theorem dL_law_703 : decode cL_law 703 = .ok (.aload_n 3, 1) := by decide +kernel
theorem dL_law_704 : decode cL_law 704 = .ok (.iconst 0, 1) := by decide +kernel
theorem dL_law_705 : decode cL_law 705 = .ok (.laload, 1) := by decide +kernel
theorem dL_law_706 : decode cL_law 706 = .ok (.iload 7, 2) := by decide +kernel
theorem dL_law_708 : decode cL_law 708 = .ok (.i2l, 1) := by decide +kernel
theorem dL_law_709 : decode cL_law 709 = .ok (.lcmp, 1) := by decide +kernel
theorem dL_law_710 : decode cL_law 710 = .ok (.ifCond .eq 5, 3) := by decide +kernel
theorem dL_law_713 : decode cL_law 713 = .ok (.iconst 0, 1) := by decide +kernel
theorem dL_law_714 : decode cL_law 714 = .ok (.ireturn, 1) := by decide +kernel
theorem dL_law_715 : decode cL_law 715 = .ok (.goto 1255, 3) := by decide +kernel
theorem dL_law_718 : decode cL_law 718 = .ok (.aload_n 1, 1) := by decide +kernel
theorem dL_law_719 : decode cL_law 719 = .ok (.aload_n 0, 1) := by decide +kernel
theorem dL_law_720 : decode cL_law 720 = .ok (.iload 5, 2) := by decide +kernel
theorem dL_law_722 : decode cL_law 722 = .ok (.iconst 1, 1) := by decide +kernel
theorem dL_law_723 : decode cL_law 723 = .ok (.iadd, 1) := by decide +kernel
theorem dL_law_724 : decode cL_law 724 = .ok (.iaload, 1) := by decide +kernel
theorem dL_law_725 : decode cL_law 725 = .ok (.aload_n 3, 1) := by decide +kernel
theorem dL_law_726 : decode cL_law 726 = .ok (.invokestatic 145, 3) := by decide +kernel
theorem dL_law_729 : decode cL_law 729 = .ok (.istore 6, 2) := by decide +kernel
theorem dL_law_731 : decode cL_law 731 = .ok (.aload_n 2, 1) := by decide +kernel
theorem dL_law_732 : decode cL_law 732 = .ok (.aload_n 0, 1) := by decide +kernel
theorem dL_law_733 : decode cL_law 733 = .ok (.iload 5, 2) := by decide +kernel
theorem dL_law_735 : decode cL_law 735 = .ok (.iconst 1, 1) := by decide +kernel
theorem dL_law_736 : decode cL_law 736 = .ok (.iadd, 1) := by decide +kernel
theorem dL_law_737 : decode cL_law 737 = .ok (.iaload, 1) := by decide +kernel
theorem dL_law_738 : decode cL_law 738 = .ok (.invokevirtual 147, 3) := by decide +kernel
theorem dL_law_741 : decode cL_law 741 = .ok (.istore 7, 2) := by decide +kernel
theorem dL_law_743 : decode cL_law 743 = .ok (.aload_n 2, 1) := by decide +kernel
theorem dL_law_744 : decode cL_law 744 = .ok (.invokevirtual 119, 3) := by decide +kernel
theorem dL_law_747 : decode cL_law 747 = .ok (.iload 6, 2) := by decide +kernel
theorem dL_law_749 : decode cL_law 749 = .ok (.if_icmp .eq 5, 3) := by decide +kernel
theorem dL_law_752 : decode cL_law 752 = .ok (.iconst 0, 1) := by decide +kernel
theorem dL_law_753 : decode cL_law 753 = .ok (.ireturn, 1) := by decide +kernel
theorem dL_law_754 : decode cL_law 754 = .ok (.iload 6, 2) := by decide +kernel
theorem dL_law_756 : decode cL_law 756 = .ok (.ifCond .ne 15, 3) := by decide +kernel
theorem dL_law_759 : decode cL_law 759 = .ok (.aload_n 3, 1) := by decide +kernel
theorem dL_law_760 : decode cL_law 760 = .ok (.iconst 0, 1) := by decide +kernel
theorem dL_law_761 : decode cL_law 761 = .ok (.laload, 1) := by decide +kernel
theorem dL_law_762 : decode cL_law 762 = .ok (.iload 7, 2) := by decide +kernel
theorem dL_law_764 : decode cL_law 764 = .ok (.i2l, 1) := by decide +kernel
theorem dL_law_765 : decode cL_law 765 = .ok (.lcmp, 1) := by decide +kernel
theorem dL_law_766 : decode cL_law 766 = .ok (.ifCond .eq 5, 3) := by decide +kernel
theorem dL_law_769 : decode cL_law 769 = .ok (.iconst 0, 1) := by decide +kernel
theorem dL_law_770 : decode cL_law 770 = .ok (.ireturn, 1) := by decide +kernel
theorem dL_law_771 : decode cL_law 771 = .ok (.goto 1199, 3) := by decide +kernel
theorem dL_law_774 : decode cL_law 774 = .ok (.aload_n 1, 1) := by decide +kernel
theorem dL_law_775 : decode cL_law 775 = .ok (.aload_n 0, 1) := by decide +kernel
theorem dL_law_776 : decode cL_law 776 = .ok (.iload 5, 2) := by decide +kernel
theorem dL_law_778 : decode cL_law 778 = .ok (.iconst 1, 1) := by decide +kernel
theorem dL_law_779 : decode cL_law 779 = .ok (.iadd, 1) := by decide +kernel
theorem dL_law_780 : decode cL_law 780 = .ok (.iaload, 1) := by decide +kernel
theorem dL_law_781 : decode cL_law 781 = .ok (.aload_n 3, 1) := by decide +kernel
theorem dL_law_782 : decode cL_law 782 = .ok (.invokestatic 148, 3) := by decide +kernel
theorem dL_law_785 : decode cL_law 785 = .ok (.istore 6, 2) := by decide +kernel
theorem dL_law_787 : decode cL_law 787 = .ok (.aload_n 2, 1) := by decide +kernel
theorem dL_law_788 : decode cL_law 788 = .ok (.aload_n 0, 1) := by decide +kernel
theorem dL_law_789 : decode cL_law 789 = .ok (.iload 5, 2) := by decide +kernel
theorem dL_law_791 : decode cL_law 791 = .ok (.iconst 1, 1) := by decide +kernel
theorem dL_law_792 : decode cL_law 792 = .ok (.iadd, 1) := by decide +kernel
theorem dL_law_793 : decode cL_law 793 = .ok (.iaload, 1) := by decide +kernel
theorem dL_law_794 : decode cL_law 794 = .ok (.invokevirtual 150, 3) := by decide +kernel
theorem dL_law_797 : decode cL_law 797 = .ok (.istore 7, 2) := by decide +kernel
theorem dL_law_799 : decode cL_law 799 = .ok (.aload_n 2, 1) := by decide +kernel
theorem dL_law_800 : decode cL_law 800 = .ok (.invokevirtual 119, 3) := by decide +kernel
theorem dL_law_803 : decode cL_law 803 = .ok (.iload 6, 2) := by decide +kernel
theorem dL_law_805 : decode cL_law 805 = .ok (.if_icmp .eq 5, 3) := by decide +kernel
theorem dL_law_808 : decode cL_law 808 = .ok (.iconst 0, 1) := by decide +kernel
theorem dL_law_809 : decode cL_law 809 = .ok (.ireturn, 1) := by decide +kernel
theorem dL_law_810 : decode cL_law 810 = .ok (.iload 6, 2) := by decide +kernel
theorem dL_law_812 : decode cL_law 812 = .ok (.ifCond .ne 15, 3) := by decide +kernel
theorem dL_law_815 : decode cL_law 815 = .ok (.aload_n 3, 1) := by decide +kernel
theorem dL_law_816 : decode cL_law 816 = .ok (.iconst 0, 1) := by decide +kernel
theorem dL_law_817 : decode cL_law 817 = .ok (.laload, 1) := by decide +kernel
theorem dL_law_818 : decode cL_law 818 = .ok (.iload 7, 2) := by decide +kernel
theorem dL_law_820 : decode cL_law 820 = .ok (.i2l, 1) := by decide +kernel
theorem dL_law_821 : decode cL_law 821 = .ok (.lcmp, 1) := by decide +kernel
theorem dL_law_822 : decode cL_law 822 = .ok (.ifCond .eq 5, 3) := by decide +kernel
theorem dL_law_825 : decode cL_law 825 = .ok (.iconst 0, 1) := by decide +kernel
theorem dL_law_826 : decode cL_law 826 = .ok (.ireturn, 1) := by decide +kernel
theorem dL_law_827 : decode cL_law 827 = .ok (.goto 1143, 3) := by decide +kernel
theorem dL_law_830 : decode cL_law 830 = .ok (.aload_n 1, 1) := by decide +kernel
theorem dL_law_831 : decode cL_law 831 = .ok (.aload_n 0, 1) := by decide +kernel
theorem dL_law_832 : decode cL_law 832 = .ok (.iload 5, 2) := by decide +kernel
theorem dL_law_834 : decode cL_law 834 = .ok (.iconst 1, 1) := by decide +kernel
theorem dL_law_835 : decode cL_law 835 = .ok (.iadd, 1) := by decide +kernel
theorem dL_law_836 : decode cL_law 836 = .ok (.iaload, 1) := by decide +kernel
theorem dL_law_837 : decode cL_law 837 = .ok (.i2l, 1) := by decide +kernel
theorem dL_law_838 : decode cL_law 838 = .ok (.bipush 32, 2) := by decide +kernel
theorem dL_law_840 : decode cL_law 840 = .ok (.lshl, 1) := by decide +kernel
theorem dL_law_841 : decode cL_law 841 = .ok (.aload_n 0, 1) := by decide +kernel
theorem dL_law_842 : decode cL_law 842 = .ok (.iload 5, 2) := by decide +kernel
theorem dL_law_844 : decode cL_law 844 = .ok (.iconst 2, 1) := by decide +kernel
theorem dL_law_845 : decode cL_law 845 = .ok (.iadd, 1) := by decide +kernel
theorem dL_law_846 : decode cL_law 846 = .ok (.iaload, 1) := by decide +kernel
theorem dL_law_847 : decode cL_law 847 = .ok (.i2l, 1) := by decide +kernel
theorem dL_law_848 : decode cL_law 848 = .ok (.ldc2_w 151, 3) := by decide +kernel
theorem dL_law_851 : decode cL_law 851 = .ok (.land, 1) := by decide +kernel
theorem dL_law_852 : decode cL_law 852 = .ok (.lor, 1) := by decide +kernel
theorem dL_law_853 : decode cL_law 853 = .ok (.aload_n 3, 1) := by decide +kernel
theorem dL_law_854 : decode cL_law 854 = .ok (.invokestatic 153, 3) := by decide +kernel
theorem dL_law_857 : decode cL_law 857 = .ok (.istore 6, 2) := by decide +kernel
theorem dL_law_859 : decode cL_law 859 = .ok (.aload_n 2, 1) := by decide +kernel
theorem dL_law_860 : decode cL_law 860 = .ok (.aload_n 0, 1) := by decide +kernel
theorem dL_law_861 : decode cL_law 861 = .ok (.iload 5, 2) := by decide +kernel
theorem dL_law_863 : decode cL_law 863 = .ok (.iconst 1, 1) := by decide +kernel
theorem dL_law_864 : decode cL_law 864 = .ok (.iadd, 1) := by decide +kernel
theorem dL_law_865 : decode cL_law 865 = .ok (.iaload, 1) := by decide +kernel
theorem dL_law_866 : decode cL_law 866 = .ok (.i2l, 1) := by decide +kernel
theorem dL_law_867 : decode cL_law 867 = .ok (.bipush 32, 2) := by decide +kernel
theorem dL_law_869 : decode cL_law 869 = .ok (.lshl, 1) := by decide +kernel
theorem dL_law_870 : decode cL_law 870 = .ok (.aload_n 0, 1) := by decide +kernel
theorem dL_law_871 : decode cL_law 871 = .ok (.iload 5, 2) := by decide +kernel
theorem dL_law_873 : decode cL_law 873 = .ok (.iconst 2, 1) := by decide +kernel
theorem dL_law_874 : decode cL_law 874 = .ok (.iadd, 1) := by decide +kernel
theorem dL_law_875 : decode cL_law 875 = .ok (.iaload, 1) := by decide +kernel
theorem dL_law_876 : decode cL_law 876 = .ok (.i2l, 1) := by decide +kernel
theorem dL_law_877 : decode cL_law 877 = .ok (.ldc2_w 151, 3) := by decide +kernel
theorem dL_law_880 : decode cL_law 880 = .ok (.land, 1) := by decide +kernel
theorem dL_law_881 : decode cL_law 881 = .ok (.lor, 1) := by decide +kernel
theorem dL_law_882 : decode cL_law 882 = .ok (.invokevirtual 156, 3) := by decide +kernel
theorem dL_law_885 : decode cL_law 885 = .ok (.istore 7, 2) := by decide +kernel
theorem dL_law_887 : decode cL_law 887 = .ok (.aload_n 2, 1) := by decide +kernel
theorem dL_law_888 : decode cL_law 888 = .ok (.invokevirtual 119, 3) := by decide +kernel
theorem dL_law_891 : decode cL_law 891 = .ok (.iload 6, 2) := by decide +kernel
theorem dL_law_893 : decode cL_law 893 = .ok (.if_icmp .eq 5, 3) := by decide +kernel
theorem dL_law_896 : decode cL_law 896 = .ok (.iconst 0, 1) := by decide +kernel
theorem dL_law_897 : decode cL_law 897 = .ok (.ireturn, 1) := by decide +kernel
theorem dL_law_898 : decode cL_law 898 = .ok (.iload 6, 2) := by decide +kernel
theorem dL_law_900 : decode cL_law 900 = .ok (.ifCond .ne 15, 3) := by decide +kernel
theorem dL_law_903 : decode cL_law 903 = .ok (.aload_n 3, 1) := by decide +kernel
theorem dL_law_904 : decode cL_law 904 = .ok (.iconst 0, 1) := by decide +kernel
theorem dL_law_905 : decode cL_law 905 = .ok (.laload, 1) := by decide +kernel
theorem dL_law_906 : decode cL_law 906 = .ok (.iload 7, 2) := by decide +kernel
theorem dL_law_908 : decode cL_law 908 = .ok (.i2l, 1) := by decide +kernel
theorem dL_law_909 : decode cL_law 909 = .ok (.lcmp, 1) := by decide +kernel
theorem dL_law_910 : decode cL_law 910 = .ok (.ifCond .eq 5, 3) := by decide +kernel
theorem dL_law_913 : decode cL_law 913 = .ok (.iconst 0, 1) := by decide +kernel
theorem dL_law_914 : decode cL_law 914 = .ok (.ireturn, 1) := by decide +kernel
theorem dL_law_915 : decode cL_law 915 = .ok (.goto 1055, 3) := by decide +kernel
theorem dL_law_918 : decode cL_law 918 = .ok (.aload_n 1, 1) := by decide +kernel
theorem dL_law_919 : decode cL_law 919 = .ok (.aload_n 0, 1) := by decide +kernel
theorem dL_law_920 : decode cL_law 920 = .ok (.iload 5, 2) := by decide +kernel
theorem dL_law_922 : decode cL_law 922 = .ok (.iconst 1, 1) := by decide +kernel
theorem dL_law_923 : decode cL_law 923 = .ok (.iadd, 1) := by decide +kernel
theorem dL_law_924 : decode cL_law 924 = .ok (.iaload, 1) := by decide +kernel
theorem dL_law_925 : decode cL_law 925 = .ok (.i2l, 1) := by decide +kernel
theorem dL_law_926 : decode cL_law 926 = .ok (.bipush 32, 2) := by decide +kernel
theorem dL_law_928 : decode cL_law 928 = .ok (.lshl, 1) := by decide +kernel
theorem dL_law_929 : decode cL_law 929 = .ok (.aload_n 0, 1) := by decide +kernel
theorem dL_law_930 : decode cL_law 930 = .ok (.iload 5, 2) := by decide +kernel
theorem dL_law_932 : decode cL_law 932 = .ok (.iconst 2, 1) := by decide +kernel
theorem dL_law_933 : decode cL_law 933 = .ok (.iadd, 1) := by decide +kernel
theorem dL_law_934 : decode cL_law 934 = .ok (.iaload, 1) := by decide +kernel
theorem dL_law_935 : decode cL_law 935 = .ok (.i2l, 1) := by decide +kernel
theorem dL_law_936 : decode cL_law 936 = .ok (.ldc2_w 151, 3) := by decide +kernel
theorem dL_law_939 : decode cL_law 939 = .ok (.land, 1) := by decide +kernel
theorem dL_law_940 : decode cL_law 940 = .ok (.lor, 1) := by decide +kernel
theorem dL_law_941 : decode cL_law 941 = .ok (.aload_n 3, 1) := by decide +kernel
theorem dL_law_942 : decode cL_law 942 = .ok (.invokestatic 157, 3) := by decide +kernel
theorem dL_law_945 : decode cL_law 945 = .ok (.istore 6, 2) := by decide +kernel
theorem dL_law_947 : decode cL_law 947 = .ok (.aload_n 2, 1) := by decide +kernel
theorem dL_law_948 : decode cL_law 948 = .ok (.aload_n 0, 1) := by decide +kernel
theorem dL_law_949 : decode cL_law 949 = .ok (.iload 5, 2) := by decide +kernel
theorem dL_law_951 : decode cL_law 951 = .ok (.iconst 1, 1) := by decide +kernel
theorem dL_law_952 : decode cL_law 952 = .ok (.iadd, 1) := by decide +kernel
theorem dL_law_953 : decode cL_law 953 = .ok (.iaload, 1) := by decide +kernel
theorem dL_law_954 : decode cL_law 954 = .ok (.i2l, 1) := by decide +kernel
theorem dL_law_955 : decode cL_law 955 = .ok (.bipush 32, 2) := by decide +kernel
theorem dL_law_957 : decode cL_law 957 = .ok (.lshl, 1) := by decide +kernel
theorem dL_law_958 : decode cL_law 958 = .ok (.aload_n 0, 1) := by decide +kernel
theorem dL_law_959 : decode cL_law 959 = .ok (.iload 5, 2) := by decide +kernel
theorem dL_law_961 : decode cL_law 961 = .ok (.iconst 2, 1) := by decide +kernel
theorem dL_law_962 : decode cL_law 962 = .ok (.iadd, 1) := by decide +kernel
theorem dL_law_963 : decode cL_law 963 = .ok (.iaload, 1) := by decide +kernel
theorem dL_law_964 : decode cL_law 964 = .ok (.i2l, 1) := by decide +kernel
theorem dL_law_965 : decode cL_law 965 = .ok (.ldc2_w 151, 3) := by decide +kernel
theorem dL_law_968 : decode cL_law 968 = .ok (.land, 1) := by decide +kernel
theorem dL_law_969 : decode cL_law 969 = .ok (.lor, 1) := by decide +kernel
theorem dL_law_970 : decode cL_law 970 = .ok (.invokevirtual 159, 3) := by decide +kernel
theorem dL_law_973 : decode cL_law 973 = .ok (.istore 7, 2) := by decide +kernel
theorem dL_law_975 : decode cL_law 975 = .ok (.aload_n 2, 1) := by decide +kernel
theorem dL_law_976 : decode cL_law 976 = .ok (.invokevirtual 119, 3) := by decide +kernel
theorem dL_law_979 : decode cL_law 979 = .ok (.iload 6, 2) := by decide +kernel
theorem dL_law_981 : decode cL_law 981 = .ok (.if_icmp .eq 5, 3) := by decide +kernel
theorem dL_law_984 : decode cL_law 984 = .ok (.iconst 0, 1) := by decide +kernel
theorem dL_law_985 : decode cL_law 985 = .ok (.ireturn, 1) := by decide +kernel
theorem dL_law_986 : decode cL_law 986 = .ok (.iload 6, 2) := by decide +kernel
theorem dL_law_988 : decode cL_law 988 = .ok (.ifCond .ne 15, 3) := by decide +kernel
theorem dL_law_991 : decode cL_law 991 = .ok (.aload_n 3, 1) := by decide +kernel
theorem dL_law_992 : decode cL_law 992 = .ok (.iconst 0, 1) := by decide +kernel
theorem dL_law_993 : decode cL_law 993 = .ok (.laload, 1) := by decide +kernel
theorem dL_law_994 : decode cL_law 994 = .ok (.iload 7, 2) := by decide +kernel
theorem dL_law_996 : decode cL_law 996 = .ok (.i2l, 1) := by decide +kernel
theorem dL_law_997 : decode cL_law 997 = .ok (.lcmp, 1) := by decide +kernel
theorem dL_law_998 : decode cL_law 998 = .ok (.ifCond .eq 5, 3) := by decide +kernel
theorem dL_law_1001 : decode cL_law 1001 = .ok (.iconst 0, 1) := by decide +kernel
theorem dL_law_1002 : decode cL_law 1002 = .ok (.ireturn, 1) := by decide +kernel
theorem dL_law_1003 : decode cL_law 1003 = .ok (.goto 967, 3) := by decide +kernel
theorem dL_law_1006 : decode cL_law 1006 = .ok (.aload_n 1, 1) := by decide +kernel
theorem dL_law_1007 : decode cL_law 1007 = .ok (.aload_n 0, 1) := by decide +kernel
theorem dL_law_1008 : decode cL_law 1008 = .ok (.iload 5, 2) := by decide +kernel
theorem dL_law_1010 : decode cL_law 1010 = .ok (.iconst 1, 1) := by decide +kernel
theorem dL_law_1011 : decode cL_law 1011 = .ok (.iadd, 1) := by decide +kernel
theorem dL_law_1012 : decode cL_law 1012 = .ok (.iaload, 1) := by decide +kernel
theorem dL_law_1013 : decode cL_law 1013 = .ok (.i2l, 1) := by decide +kernel
theorem dL_law_1014 : decode cL_law 1014 = .ok (.bipush 32, 2) := by decide +kernel
theorem dL_law_1016 : decode cL_law 1016 = .ok (.lshl, 1) := by decide +kernel
theorem dL_law_1017 : decode cL_law 1017 = .ok (.aload_n 0, 1) := by decide +kernel
theorem dL_law_1018 : decode cL_law 1018 = .ok (.iload 5, 2) := by decide +kernel
theorem dL_law_1020 : decode cL_law 1020 = .ok (.iconst 2, 1) := by decide +kernel
theorem dL_law_1021 : decode cL_law 1021 = .ok (.iadd, 1) := by decide +kernel
theorem dL_law_1022 : decode cL_law 1022 = .ok (.iaload, 1) := by decide +kernel
theorem dL_law_1023 : decode cL_law 1023 = .ok (.i2l, 1) := by decide +kernel
theorem dL_law_1024 : decode cL_law 1024 = .ok (.ldc2_w 151, 3) := by decide +kernel
theorem dL_law_1027 : decode cL_law 1027 = .ok (.land, 1) := by decide +kernel
theorem dL_law_1028 : decode cL_law 1028 = .ok (.lor, 1) := by decide +kernel
theorem dL_law_1029 : decode cL_law 1029 = .ok (.aload_n 0, 1) := by decide +kernel
theorem dL_law_1030 : decode cL_law 1030 = .ok (.iload 5, 2) := by decide +kernel
theorem dL_law_1032 : decode cL_law 1032 = .ok (.iconst 3, 1) := by decide +kernel
theorem dL_law_1033 : decode cL_law 1033 = .ok (.iadd, 1) := by decide +kernel
theorem dL_law_1034 : decode cL_law 1034 = .ok (.iaload, 1) := by decide +kernel
theorem dL_law_1035 : decode cL_law 1035 = .ok (.aload_n 3, 1) := by decide +kernel
theorem dL_law_1036 : decode cL_law 1036 = .ok (.invokestatic 160, 3) := by decide +kernel
theorem dL_law_1039 : decode cL_law 1039 = .ok (.istore 6, 2) := by decide +kernel
theorem dL_law_1041 : decode cL_law 1041 = .ok (.aload_n 2, 1) := by decide +kernel
theorem dL_law_1042 : decode cL_law 1042 = .ok (.aload_n 0, 1) := by decide +kernel
theorem dL_law_1043 : decode cL_law 1043 = .ok (.iload 5, 2) := by decide +kernel
theorem dL_law_1045 : decode cL_law 1045 = .ok (.iconst 1, 1) := by decide +kernel
theorem dL_law_1046 : decode cL_law 1046 = .ok (.iadd, 1) := by decide +kernel
theorem dL_law_1047 : decode cL_law 1047 = .ok (.iaload, 1) := by decide +kernel
theorem dL_law_1048 : decode cL_law 1048 = .ok (.i2l, 1) := by decide +kernel
theorem dL_law_1049 : decode cL_law 1049 = .ok (.bipush 32, 2) := by decide +kernel
theorem dL_law_1051 : decode cL_law 1051 = .ok (.lshl, 1) := by decide +kernel
theorem dL_law_1052 : decode cL_law 1052 = .ok (.aload_n 0, 1) := by decide +kernel
theorem dL_law_1053 : decode cL_law 1053 = .ok (.iload 5, 2) := by decide +kernel
theorem dL_law_1055 : decode cL_law 1055 = .ok (.iconst 2, 1) := by decide +kernel
theorem dL_law_1056 : decode cL_law 1056 = .ok (.iadd, 1) := by decide +kernel
theorem dL_law_1057 : decode cL_law 1057 = .ok (.iaload, 1) := by decide +kernel
theorem dL_law_1058 : decode cL_law 1058 = .ok (.i2l, 1) := by decide +kernel
theorem dL_law_1059 : decode cL_law 1059 = .ok (.ldc2_w 151, 3) := by decide +kernel
theorem dL_law_1062 : decode cL_law 1062 = .ok (.land, 1) := by decide +kernel
theorem dL_law_1063 : decode cL_law 1063 = .ok (.lor, 1) := by decide +kernel
theorem dL_law_1064 : decode cL_law 1064 = .ok (.aload_n 0, 1) := by decide +kernel
theorem dL_law_1065 : decode cL_law 1065 = .ok (.iload 5, 2) := by decide +kernel
theorem dL_law_1067 : decode cL_law 1067 = .ok (.iconst 3, 1) := by decide +kernel
theorem dL_law_1068 : decode cL_law 1068 = .ok (.iadd, 1) := by decide +kernel
theorem dL_law_1069 : decode cL_law 1069 = .ok (.iaload, 1) := by decide +kernel
theorem dL_law_1070 : decode cL_law 1070 = .ok (.invokevirtual 163, 3) := by decide +kernel
theorem dL_law_1073 : decode cL_law 1073 = .ok (.istore 7, 2) := by decide +kernel
theorem dL_law_1075 : decode cL_law 1075 = .ok (.aload_n 2, 1) := by decide +kernel
theorem dL_law_1076 : decode cL_law 1076 = .ok (.invokevirtual 119, 3) := by decide +kernel
theorem dL_law_1079 : decode cL_law 1079 = .ok (.iload 6, 2) := by decide +kernel
theorem dL_law_1081 : decode cL_law 1081 = .ok (.if_icmp .eq 5, 3) := by decide +kernel
theorem dL_law_1084 : decode cL_law 1084 = .ok (.iconst 0, 1) := by decide +kernel
theorem dL_law_1085 : decode cL_law 1085 = .ok (.ireturn, 1) := by decide +kernel
theorem dL_law_1086 : decode cL_law 1086 = .ok (.iload 6, 2) := by decide +kernel
theorem dL_law_1088 : decode cL_law 1088 = .ok (.ifCond .ne 15, 3) := by decide +kernel
theorem dL_law_1091 : decode cL_law 1091 = .ok (.aload_n 3, 1) := by decide +kernel
theorem dL_law_1092 : decode cL_law 1092 = .ok (.iconst 0, 1) := by decide +kernel
theorem dL_law_1093 : decode cL_law 1093 = .ok (.laload, 1) := by decide +kernel
theorem dL_law_1094 : decode cL_law 1094 = .ok (.iload 7, 2) := by decide +kernel
theorem dL_law_1096 : decode cL_law 1096 = .ok (.i2l, 1) := by decide +kernel
theorem dL_law_1097 : decode cL_law 1097 = .ok (.lcmp, 1) := by decide +kernel
theorem dL_law_1098 : decode cL_law 1098 = .ok (.ifCond .eq 5, 3) := by decide +kernel
theorem dL_law_1101 : decode cL_law 1101 = .ok (.iconst 0, 1) := by decide +kernel
theorem dL_law_1102 : decode cL_law 1102 = .ok (.ireturn, 1) := by decide +kernel
theorem dL_law_1103 : decode cL_law 1103 = .ok (.goto 867, 3) := by decide +kernel
theorem dL_law_1106 : decode cL_law 1106 = .ok (.aload_n 1, 1) := by decide +kernel
theorem dL_law_1107 : decode cL_law 1107 = .ok (.aload_n 0, 1) := by decide +kernel
theorem dL_law_1108 : decode cL_law 1108 = .ok (.iload 5, 2) := by decide +kernel
theorem dL_law_1110 : decode cL_law 1110 = .ok (.iconst 1, 1) := by decide +kernel
theorem dL_law_1111 : decode cL_law 1111 = .ok (.iadd, 1) := by decide +kernel
theorem dL_law_1112 : decode cL_law 1112 = .ok (.iaload, 1) := by decide +kernel
theorem dL_law_1113 : decode cL_law 1113 = .ok (.i2l, 1) := by decide +kernel
theorem dL_law_1114 : decode cL_law 1114 = .ok (.bipush 32, 2) := by decide +kernel
theorem dL_law_1116 : decode cL_law 1116 = .ok (.lshl, 1) := by decide +kernel
theorem dL_law_1117 : decode cL_law 1117 = .ok (.aload_n 0, 1) := by decide +kernel
theorem dL_law_1118 : decode cL_law 1118 = .ok (.iload 5, 2) := by decide +kernel
theorem dL_law_1120 : decode cL_law 1120 = .ok (.iconst 2, 1) := by decide +kernel
theorem dL_law_1121 : decode cL_law 1121 = .ok (.iadd, 1) := by decide +kernel
theorem dL_law_1122 : decode cL_law 1122 = .ok (.iaload, 1) := by decide +kernel
theorem dL_law_1123 : decode cL_law 1123 = .ok (.i2l, 1) := by decide +kernel
theorem dL_law_1124 : decode cL_law 1124 = .ok (.ldc2_w 151, 3) := by decide +kernel
theorem dL_law_1127 : decode cL_law 1127 = .ok (.land, 1) := by decide +kernel
theorem dL_law_1128 : decode cL_law 1128 = .ok (.lor, 1) := by decide +kernel
theorem dL_law_1129 : decode cL_law 1129 = .ok (.aload_n 3, 1) := by decide +kernel
theorem dL_law_1130 : decode cL_law 1130 = .ok (.invokestatic 164, 3) := by decide +kernel
theorem dL_law_1133 : decode cL_law 1133 = .ok (.istore 6, 2) := by decide +kernel
theorem dL_law_1135 : decode cL_law 1135 = .ok (.aload_n 2, 1) := by decide +kernel
theorem dL_law_1136 : decode cL_law 1136 = .ok (.aload_n 0, 1) := by decide +kernel
theorem dL_law_1137 : decode cL_law 1137 = .ok (.iload 5, 2) := by decide +kernel
theorem dL_law_1139 : decode cL_law 1139 = .ok (.iconst 1, 1) := by decide +kernel
theorem dL_law_1140 : decode cL_law 1140 = .ok (.iadd, 1) := by decide +kernel
theorem dL_law_1141 : decode cL_law 1141 = .ok (.iaload, 1) := by decide +kernel
theorem dL_law_1142 : decode cL_law 1142 = .ok (.i2l, 1) := by decide +kernel
theorem dL_law_1143 : decode cL_law 1143 = .ok (.bipush 32, 2) := by decide +kernel
theorem dL_law_1145 : decode cL_law 1145 = .ok (.lshl, 1) := by decide +kernel
theorem dL_law_1146 : decode cL_law 1146 = .ok (.aload_n 0, 1) := by decide +kernel
theorem dL_law_1147 : decode cL_law 1147 = .ok (.iload 5, 2) := by decide +kernel
theorem dL_law_1149 : decode cL_law 1149 = .ok (.iconst 2, 1) := by decide +kernel
theorem dL_law_1150 : decode cL_law 1150 = .ok (.iadd, 1) := by decide +kernel
theorem dL_law_1151 : decode cL_law 1151 = .ok (.iaload, 1) := by decide +kernel
theorem dL_law_1152 : decode cL_law 1152 = .ok (.i2l, 1) := by decide +kernel
theorem dL_law_1153 : decode cL_law 1153 = .ok (.ldc2_w 151, 3) := by decide +kernel
theorem dL_law_1156 : decode cL_law 1156 = .ok (.land, 1) := by decide +kernel
theorem dL_law_1157 : decode cL_law 1157 = .ok (.lor, 1) := by decide +kernel
theorem dL_law_1158 : decode cL_law 1158 = .ok (.invokevirtual 166, 3) := by decide +kernel
theorem dL_law_1161 : decode cL_law 1161 = .ok (.istore 7, 2) := by decide +kernel
theorem dL_law_1163 : decode cL_law 1163 = .ok (.aload_n 2, 1) := by decide +kernel
theorem dL_law_1164 : decode cL_law 1164 = .ok (.invokevirtual 119, 3) := by decide +kernel
theorem dL_law_1167 : decode cL_law 1167 = .ok (.iload 6, 2) := by decide +kernel
theorem dL_law_1169 : decode cL_law 1169 = .ok (.if_icmp .eq 5, 3) := by decide +kernel
theorem dL_law_1172 : decode cL_law 1172 = .ok (.iconst 0, 1) := by decide +kernel
theorem dL_law_1173 : decode cL_law 1173 = .ok (.ireturn, 1) := by decide +kernel
theorem dL_law_1174 : decode cL_law 1174 = .ok (.iload 6, 2) := by decide +kernel
theorem dL_law_1176 : decode cL_law 1176 = .ok (.ifCond .ne 15, 3) := by decide +kernel
theorem dL_law_1179 : decode cL_law 1179 = .ok (.aload_n 3, 1) := by decide +kernel
theorem dL_law_1180 : decode cL_law 1180 = .ok (.iconst 0, 1) := by decide +kernel
theorem dL_law_1181 : decode cL_law 1181 = .ok (.laload, 1) := by decide +kernel
theorem dL_law_1182 : decode cL_law 1182 = .ok (.iload 7, 2) := by decide +kernel
theorem dL_law_1184 : decode cL_law 1184 = .ok (.i2l, 1) := by decide +kernel
theorem dL_law_1185 : decode cL_law 1185 = .ok (.lcmp, 1) := by decide +kernel
theorem dL_law_1186 : decode cL_law 1186 = .ok (.ifCond .eq 5, 3) := by decide +kernel
theorem dL_law_1189 : decode cL_law 1189 = .ok (.iconst 0, 1) := by decide +kernel
theorem dL_law_1190 : decode cL_law 1190 = .ok (.ireturn, 1) := by decide +kernel
theorem dL_law_1191 : decode cL_law 1191 = .ok (.goto 779, 3) := by decide +kernel
theorem dL_law_1194 : decode cL_law 1194 = .ok (.aload_n 1, 1) := by decide +kernel
theorem dL_law_1195 : decode cL_law 1195 = .ok (.aload_n 0, 1) := by decide +kernel
theorem dL_law_1196 : decode cL_law 1196 = .ok (.iload 5, 2) := by decide +kernel
theorem dL_law_1198 : decode cL_law 1198 = .ok (.iconst 1, 1) := by decide +kernel
theorem dL_law_1199 : decode cL_law 1199 = .ok (.iadd, 1) := by decide +kernel
theorem dL_law_1200 : decode cL_law 1200 = .ok (.iaload, 1) := by decide +kernel
theorem dL_law_1201 : decode cL_law 1201 = .ok (.i2l, 1) := by decide +kernel
theorem dL_law_1202 : decode cL_law 1202 = .ok (.bipush 32, 2) := by decide +kernel
theorem dL_law_1204 : decode cL_law 1204 = .ok (.lshl, 1) := by decide +kernel
theorem dL_law_1205 : decode cL_law 1205 = .ok (.aload_n 0, 1) := by decide +kernel
theorem dL_law_1206 : decode cL_law 1206 = .ok (.iload 5, 2) := by decide +kernel
theorem dL_law_1208 : decode cL_law 1208 = .ok (.iconst 2, 1) := by decide +kernel
theorem dL_law_1209 : decode cL_law 1209 = .ok (.iadd, 1) := by decide +kernel
theorem dL_law_1210 : decode cL_law 1210 = .ok (.iaload, 1) := by decide +kernel
theorem dL_law_1211 : decode cL_law 1211 = .ok (.i2l, 1) := by decide +kernel
theorem dL_law_1212 : decode cL_law 1212 = .ok (.ldc2_w 151, 3) := by decide +kernel
theorem dL_law_1215 : decode cL_law 1215 = .ok (.land, 1) := by decide +kernel
theorem dL_law_1216 : decode cL_law 1216 = .ok (.lor, 1) := by decide +kernel
theorem dL_law_1217 : decode cL_law 1217 = .ok (.aload_n 3, 1) := by decide +kernel
theorem dL_law_1218 : decode cL_law 1218 = .ok (.invokestatic 167, 3) := by decide +kernel
theorem dL_law_1221 : decode cL_law 1221 = .ok (.istore 6, 2) := by decide +kernel
theorem dL_law_1223 : decode cL_law 1223 = .ok (.aload_n 2, 1) := by decide +kernel
theorem dL_law_1224 : decode cL_law 1224 = .ok (.aload_n 0, 1) := by decide +kernel
theorem dL_law_1225 : decode cL_law 1225 = .ok (.iload 5, 2) := by decide +kernel
theorem dL_law_1227 : decode cL_law 1227 = .ok (.iconst 1, 1) := by decide +kernel
theorem dL_law_1228 : decode cL_law 1228 = .ok (.iadd, 1) := by decide +kernel
theorem dL_law_1229 : decode cL_law 1229 = .ok (.iaload, 1) := by decide +kernel
theorem dL_law_1230 : decode cL_law 1230 = .ok (.i2l, 1) := by decide +kernel
theorem dL_law_1231 : decode cL_law 1231 = .ok (.bipush 32, 2) := by decide +kernel
theorem dL_law_1233 : decode cL_law 1233 = .ok (.lshl, 1) := by decide +kernel
theorem dL_law_1234 : decode cL_law 1234 = .ok (.aload_n 0, 1) := by decide +kernel
theorem dL_law_1235 : decode cL_law 1235 = .ok (.iload 5, 2) := by decide +kernel
theorem dL_law_1237 : decode cL_law 1237 = .ok (.iconst 2, 1) := by decide +kernel
theorem dL_law_1238 : decode cL_law 1238 = .ok (.iadd, 1) := by decide +kernel
theorem dL_law_1239 : decode cL_law 1239 = .ok (.iaload, 1) := by decide +kernel
theorem dL_law_1240 : decode cL_law 1240 = .ok (.i2l, 1) := by decide +kernel
theorem dL_law_1241 : decode cL_law 1241 = .ok (.ldc2_w 151, 3) := by decide +kernel
theorem dL_law_1244 : decode cL_law 1244 = .ok (.land, 1) := by decide +kernel
theorem dL_law_1245 : decode cL_law 1245 = .ok (.lor, 1) := by decide +kernel
theorem dL_law_1246 : decode cL_law 1246 = .ok (.invokevirtual 169, 3) := by decide +kernel
theorem dL_law_1249 : decode cL_law 1249 = .ok (.istore 7, 2) := by decide +kernel
theorem dL_law_1251 : decode cL_law 1251 = .ok (.aload_n 2, 1) := by decide +kernel
theorem dL_law_1252 : decode cL_law 1252 = .ok (.invokevirtual 119, 3) := by decide +kernel
theorem dL_law_1255 : decode cL_law 1255 = .ok (.iload 6, 2) := by decide +kernel
theorem dL_law_1257 : decode cL_law 1257 = .ok (.if_icmp .eq 5, 3) := by decide +kernel
theorem dL_law_1260 : decode cL_law 1260 = .ok (.iconst 0, 1) := by decide +kernel
theorem dL_law_1261 : decode cL_law 1261 = .ok (.ireturn, 1) := by decide +kernel
theorem dL_law_1262 : decode cL_law 1262 = .ok (.iload 6, 2) := by decide +kernel
theorem dL_law_1264 : decode cL_law 1264 = .ok (.ifCond .ne 15, 3) := by decide +kernel
theorem dL_law_1267 : decode cL_law 1267 = .ok (.aload_n 3, 1) := by decide +kernel
theorem dL_law_1268 : decode cL_law 1268 = .ok (.iconst 0, 1) := by decide +kernel
theorem dL_law_1269 : decode cL_law 1269 = .ok (.laload, 1) := by decide +kernel
theorem dL_law_1270 : decode cL_law 1270 = .ok (.iload 7, 2) := by decide +kernel
theorem dL_law_1272 : decode cL_law 1272 = .ok (.i2l, 1) := by decide +kernel
theorem dL_law_1273 : decode cL_law 1273 = .ok (.lcmp, 1) := by decide +kernel
theorem dL_law_1274 : decode cL_law 1274 = .ok (.ifCond .eq 5, 3) := by decide +kernel
theorem dL_law_1277 : decode cL_law 1277 = .ok (.iconst 0, 1) := by decide +kernel
theorem dL_law_1278 : decode cL_law 1278 = .ok (.ireturn, 1) := by decide +kernel
theorem dL_law_1279 : decode cL_law 1279 = .ok (.goto 691, 3) := by decide +kernel
theorem dL_law_1282 : decode cL_law 1282 = .ok (.aload_n 1, 1) := by decide +kernel
theorem dL_law_1283 : decode cL_law 1283 = .ok (.invokevirtual 170, 3) := by decide +kernel
theorem dL_law_1286 : decode cL_law 1286 = .ok (.aload_n 2, 1) := by decide +kernel
theorem dL_law_1287 : decode cL_law 1287 = .ok (.invokevirtual 173, 3) := by decide +kernel
theorem dL_law_1290 : decode cL_law 1290 = .ok (.if_icmp .eq 680, 3) := by decide +kernel
theorem dL_law_1293 : decode cL_law 1293 = .ok (.iconst 0, 1) := by decide +kernel
theorem dL_law_1294 : decode cL_law 1294 = .ok (.ireturn, 1) := by decide +kernel
theorem dL_law_1295 : decode cL_law 1295 = .ok (.aload_n 1, 1) := by decide +kernel
theorem dL_law_1296 : decode cL_law 1296 = .ok (.aload_n 0, 1) := by decide +kernel
theorem dL_law_1297 : decode cL_law 1297 = .ok (.iload 5, 2) := by decide +kernel
theorem dL_law_1299 : decode cL_law 1299 = .ok (.iconst 1, 1) := by decide +kernel
theorem dL_law_1300 : decode cL_law 1300 = .ok (.iadd, 1) := by decide +kernel
theorem dL_law_1301 : decode cL_law 1301 = .ok (.iaload, 1) := by decide +kernel
theorem dL_law_1302 : decode cL_law 1302 = .ok (.aload_n 3, 1) := by decide +kernel
theorem dL_law_1303 : decode cL_law 1303 = .ok (.invokestatic 174, 3) := by decide +kernel
theorem dL_law_1306 : decode cL_law 1306 = .ok (.istore 6, 2) := by decide +kernel
theorem dL_law_1308 : decode cL_law 1308 = .ok (.aload_n 2, 1) := by decide +kernel
theorem dL_law_1309 : decode cL_law 1309 = .ok (.aload_n 0, 1) := by decide +kernel
theorem dL_law_1310 : decode cL_law 1310 = .ok (.iload 5, 2) := by decide +kernel
theorem dL_law_1312 : decode cL_law 1312 = .ok (.iconst 1, 1) := by decide +kernel
theorem dL_law_1313 : decode cL_law 1313 = .ok (.iadd, 1) := by decide +kernel
theorem dL_law_1314 : decode cL_law 1314 = .ok (.iaload, 1) := by decide +kernel
theorem dL_law_1315 : decode cL_law 1315 = .ok (.invokevirtual 176, 3) := by decide +kernel
theorem dL_law_1318 : decode cL_law 1318 = .ok (.istore 7, 2) := by decide +kernel
theorem dL_law_1320 : decode cL_law 1320 = .ok (.aload_n 2, 1) := by decide +kernel
theorem dL_law_1321 : decode cL_law 1321 = .ok (.invokevirtual 119, 3) := by decide +kernel
theorem dL_law_1324 : decode cL_law 1324 = .ok (.iload 6, 2) := by decide +kernel
theorem dL_law_1326 : decode cL_law 1326 = .ok (.if_icmp .eq 5, 3) := by decide +kernel
theorem dL_law_1329 : decode cL_law 1329 = .ok (.iconst 0, 1) := by decide +kernel
theorem dL_law_1330 : decode cL_law 1330 = .ok (.ireturn, 1) := by decide +kernel
theorem dL_law_1331 : decode cL_law 1331 = .ok (.iload 6, 2) := by decide +kernel
theorem dL_law_1333 : decode cL_law 1333 = .ok (.ifCond .ne 15, 3) := by decide +kernel
theorem dL_law_1336 : decode cL_law 1336 = .ok (.aload_n 3, 1) := by decide +kernel
theorem dL_law_1337 : decode cL_law 1337 = .ok (.iconst 0, 1) := by decide +kernel
theorem dL_law_1338 : decode cL_law 1338 = .ok (.laload, 1) := by decide +kernel
theorem dL_law_1339 : decode cL_law 1339 = .ok (.iload 7, 2) := by decide +kernel
theorem dL_law_1341 : decode cL_law 1341 = .ok (.i2l, 1) := by decide +kernel
theorem dL_law_1342 : decode cL_law 1342 = .ok (.lcmp, 1) := by decide +kernel
theorem dL_law_1343 : decode cL_law 1343 = .ok (.ifCond .eq 5, 3) := by decide +kernel
theorem dL_law_1346 : decode cL_law 1346 = .ok (.iconst 0, 1) := by decide +kernel
theorem dL_law_1347 : decode cL_law 1347 = .ok (.ireturn, 1) := by decide +kernel
theorem dL_law_1348 : decode cL_law 1348 = .ok (.goto 622, 3) := by decide +kernel
theorem dL_law_1351 : decode cL_law 1351 = .ok (.aload_n 1, 1) := by decide +kernel
theorem dL_law_1352 : decode cL_law 1352 = .ok (.aload_n 0, 1) := by decide +kernel
theorem dL_law_1353 : decode cL_law 1353 = .ok (.iload 5, 2) := by decide +kernel
theorem dL_law_1355 : decode cL_law 1355 = .ok (.iconst 1, 1) := by decide +kernel
theorem dL_law_1356 : decode cL_law 1356 = .ok (.iadd, 1) := by decide +kernel
theorem dL_law_1357 : decode cL_law 1357 = .ok (.iaload, 1) := by decide +kernel
theorem dL_law_1358 : decode cL_law 1358 = .ok (.aload_n 0, 1) := by decide +kernel
theorem dL_law_1359 : decode cL_law 1359 = .ok (.iload 5, 2) := by decide +kernel
theorem dL_law_1361 : decode cL_law 1361 = .ok (.iconst 2, 1) := by decide +kernel
theorem dL_law_1362 : decode cL_law 1362 = .ok (.iadd, 1) := by decide +kernel
theorem dL_law_1363 : decode cL_law 1363 = .ok (.iaload, 1) := by decide +kernel
theorem dL_law_1364 : decode cL_law 1364 = .ok (.aload_n 3, 1) := by decide +kernel
theorem dL_law_1365 : decode cL_law 1365 = .ok (.invokestatic 177, 3) := by decide +kernel
theorem dL_law_1368 : decode cL_law 1368 = .ok (.istore 6, 2) := by decide +kernel
theorem dL_law_1370 : decode cL_law 1370 = .ok (.aload_n 2, 1) := by decide +kernel
theorem dL_law_1371 : decode cL_law 1371 = .ok (.aload_n 0, 1) := by decide +kernel
theorem dL_law_1372 : decode cL_law 1372 = .ok (.iload 5, 2) := by decide +kernel
theorem dL_law_1374 : decode cL_law 1374 = .ok (.iconst 1, 1) := by decide +kernel
theorem dL_law_1375 : decode cL_law 1375 = .ok (.iadd, 1) := by decide +kernel
theorem dL_law_1376 : decode cL_law 1376 = .ok (.iaload, 1) := by decide +kernel
theorem dL_law_1377 : decode cL_law 1377 = .ok (.aload_n 0, 1) := by decide +kernel
theorem dL_law_1378 : decode cL_law 1378 = .ok (.iload 5, 2) := by decide +kernel
theorem dL_law_1380 : decode cL_law 1380 = .ok (.iconst 2, 1) := by decide +kernel
theorem dL_law_1381 : decode cL_law 1381 = .ok (.iadd, 1) := by decide +kernel
theorem dL_law_1382 : decode cL_law 1382 = .ok (.iaload, 1) := by decide +kernel
theorem dL_law_1383 : decode cL_law 1383 = .ok (.invokevirtual 179, 3) := by decide +kernel
theorem dL_law_1386 : decode cL_law 1386 = .ok (.istore 7, 2) := by decide +kernel
theorem dL_law_1388 : decode cL_law 1388 = .ok (.aload_n 2, 1) := by decide +kernel
theorem dL_law_1389 : decode cL_law 1389 = .ok (.invokevirtual 119, 3) := by decide +kernel
theorem dL_law_1392 : decode cL_law 1392 = .ok (.iload 6, 2) := by decide +kernel
theorem dL_law_1394 : decode cL_law 1394 = .ok (.if_icmp .eq 5, 3) := by decide +kernel
theorem dL_law_1397 : decode cL_law 1397 = .ok (.iconst 0, 1) := by decide +kernel
theorem dL_law_1398 : decode cL_law 1398 = .ok (.ireturn, 1) := by decide +kernel
theorem dL_law_1399 : decode cL_law 1399 = .ok (.iload 6, 2) := by decide +kernel
theorem dL_law_1401 : decode cL_law 1401 = .ok (.ifCond .ne 15, 3) := by decide +kernel
theorem dL_law_1404 : decode cL_law 1404 = .ok (.aload_n 3, 1) := by decide +kernel
theorem dL_law_1405 : decode cL_law 1405 = .ok (.iconst 0, 1) := by decide +kernel
theorem dL_law_1406 : decode cL_law 1406 = .ok (.laload, 1) := by decide +kernel
theorem dL_law_1407 : decode cL_law 1407 = .ok (.iload 7, 2) := by decide +kernel
theorem dL_law_1409 : decode cL_law 1409 = .ok (.i2l, 1) := by decide +kernel
theorem dL_law_1410 : decode cL_law 1410 = .ok (.lcmp, 1) := by decide +kernel
theorem dL_law_1411 : decode cL_law 1411 = .ok (.ifCond .eq 5, 3) := by decide +kernel
theorem dL_law_1414 : decode cL_law 1414 = .ok (.iconst 0, 1) := by decide +kernel
theorem dL_law_1415 : decode cL_law 1415 = .ok (.ireturn, 1) := by decide +kernel
theorem dL_law_1416 : decode cL_law 1416 = .ok (.goto 554, 3) := by decide +kernel
theorem dL_law_1419 : decode cL_law 1419 = .ok (.aload_n 1, 1) := by decide +kernel
theorem dL_law_1420 : decode cL_law 1420 = .ok (.invokevirtual 180, 3) := by decide +kernel
theorem dL_law_1423 : decode cL_law 1423 = .ok (.aload_n 2, 1) := by decide +kernel
theorem dL_law_1424 : decode cL_law 1424 = .ok (.invokevirtual 183, 3) := by decide +kernel
theorem dL_law_1427 : decode cL_law 1427 = .ok (.if_icmp .eq 543, 3) := by decide +kernel
theorem dL_law_1430 : decode cL_law 1430 = .ok (.iconst 0, 1) := by decide +kernel
theorem dL_law_1431 : decode cL_law 1431 = .ok (.ireturn, 1) := by decide +kernel
theorem dL_law_1432 : decode cL_law 1432 = .ok (.aload_n 1, 1) := by decide +kernel
theorem dL_law_1433 : decode cL_law 1433 = .ok (.aload_n 0, 1) := by decide +kernel
theorem dL_law_1434 : decode cL_law 1434 = .ok (.iload 5, 2) := by decide +kernel
theorem dL_law_1436 : decode cL_law 1436 = .ok (.iconst 1, 1) := by decide +kernel
theorem dL_law_1437 : decode cL_law 1437 = .ok (.iadd, 1) := by decide +kernel
theorem dL_law_1438 : decode cL_law 1438 = .ok (.iaload, 1) := by decide +kernel
theorem dL_law_1439 : decode cL_law 1439 = .ok (.aload_n 0, 1) := by decide +kernel
theorem dL_law_1440 : decode cL_law 1440 = .ok (.iload 5, 2) := by decide +kernel
theorem dL_law_1442 : decode cL_law 1442 = .ok (.iconst 2, 1) := by decide +kernel
theorem dL_law_1443 : decode cL_law 1443 = .ok (.iadd, 1) := by decide +kernel
theorem dL_law_1444 : decode cL_law 1444 = .ok (.iaload, 1) := by decide +kernel
theorem dL_law_1445 : decode cL_law 1445 = .ok (.aload_n 3, 1) := by decide +kernel
theorem dL_law_1446 : decode cL_law 1446 = .ok (.invokestatic 184, 3) := by decide +kernel
theorem dL_law_1449 : decode cL_law 1449 = .ok (.istore 6, 2) := by decide +kernel
theorem dL_law_1451 : decode cL_law 1451 = .ok (.aload_n 2, 1) := by decide +kernel
theorem dL_law_1452 : decode cL_law 1452 = .ok (.aload_n 0, 1) := by decide +kernel
theorem dL_law_1453 : decode cL_law 1453 = .ok (.iload 5, 2) := by decide +kernel
theorem dL_law_1455 : decode cL_law 1455 = .ok (.iconst 1, 1) := by decide +kernel
theorem dL_law_1456 : decode cL_law 1456 = .ok (.iadd, 1) := by decide +kernel
theorem dL_law_1457 : decode cL_law 1457 = .ok (.iaload, 1) := by decide +kernel
theorem dL_law_1458 : decode cL_law 1458 = .ok (.aload_n 0, 1) := by decide +kernel
theorem dL_law_1459 : decode cL_law 1459 = .ok (.iload 5, 2) := by decide +kernel
theorem dL_law_1461 : decode cL_law 1461 = .ok (.iconst 2, 1) := by decide +kernel
theorem dL_law_1462 : decode cL_law 1462 = .ok (.iadd, 1) := by decide +kernel
theorem dL_law_1463 : decode cL_law 1463 = .ok (.iaload, 1) := by decide +kernel
theorem dL_law_1464 : decode cL_law 1464 = .ok (.invokevirtual 186, 3) := by decide +kernel
theorem dL_law_1467 : decode cL_law 1467 = .ok (.istore 7, 2) := by decide +kernel
theorem dL_law_1469 : decode cL_law 1469 = .ok (.aload_n 2, 1) := by decide +kernel
theorem dL_law_1470 : decode cL_law 1470 = .ok (.invokevirtual 119, 3) := by decide +kernel
theorem dL_law_1473 : decode cL_law 1473 = .ok (.iload 6, 2) := by decide +kernel
theorem dL_law_1475 : decode cL_law 1475 = .ok (.if_icmp .eq 5, 3) := by decide +kernel
theorem dL_law_1478 : decode cL_law 1478 = .ok (.iconst 0, 1) := by decide +kernel
theorem dL_law_1479 : decode cL_law 1479 = .ok (.ireturn, 1) := by decide +kernel
theorem dL_law_1480 : decode cL_law 1480 = .ok (.iload 6, 2) := by decide +kernel
theorem dL_law_1482 : decode cL_law 1482 = .ok (.ifCond .ne 15, 3) := by decide +kernel
theorem dL_law_1485 : decode cL_law 1485 = .ok (.aload_n 3, 1) := by decide +kernel
theorem dL_law_1486 : decode cL_law 1486 = .ok (.iconst 0, 1) := by decide +kernel
theorem dL_law_1487 : decode cL_law 1487 = .ok (.laload, 1) := by decide +kernel
theorem dL_law_1488 : decode cL_law 1488 = .ok (.iload 7, 2) := by decide +kernel
theorem dL_law_1490 : decode cL_law 1490 = .ok (.i2l, 1) := by decide +kernel
theorem dL_law_1491 : decode cL_law 1491 = .ok (.lcmp, 1) := by decide +kernel
theorem dL_law_1492 : decode cL_law 1492 = .ok (.ifCond .eq 5, 3) := by decide +kernel
theorem dL_law_1495 : decode cL_law 1495 = .ok (.iconst 0, 1) := by decide +kernel
theorem dL_law_1496 : decode cL_law 1496 = .ok (.ireturn, 1) := by decide +kernel
theorem dL_law_1497 : decode cL_law 1497 = .ok (.goto 473, 3) := by decide +kernel
theorem dL_law_1500 : decode cL_law 1500 = .ok (.aload_n 1, 1) := by decide +kernel
theorem dL_law_1501 : decode cL_law 1501 = .ok (.aload_n 0, 1) := by decide +kernel
theorem dL_law_1502 : decode cL_law 1502 = .ok (.iload 5, 2) := by decide +kernel
theorem dL_law_1504 : decode cL_law 1504 = .ok (.iconst 1, 1) := by decide +kernel
theorem dL_law_1505 : decode cL_law 1505 = .ok (.iadd, 1) := by decide +kernel
theorem dL_law_1506 : decode cL_law 1506 = .ok (.iaload, 1) := by decide +kernel
theorem dL_law_1507 : decode cL_law 1507 = .ok (.aload_n 3, 1) := by decide +kernel
theorem dL_law_1508 : decode cL_law 1508 = .ok (.invokestatic 187, 3) := by decide +kernel
theorem dL_law_1511 : decode cL_law 1511 = .ok (.istore 6, 2) := by decide +kernel
theorem dL_law_1513 : decode cL_law 1513 = .ok (.aload_n 2, 1) := by decide +kernel
theorem dL_law_1514 : decode cL_law 1514 = .ok (.aload_n 0, 1) := by decide +kernel
theorem dL_law_1515 : decode cL_law 1515 = .ok (.iload 5, 2) := by decide +kernel
theorem dL_law_1517 : decode cL_law 1517 = .ok (.iconst 1, 1) := by decide +kernel
theorem dL_law_1518 : decode cL_law 1518 = .ok (.iadd, 1) := by decide +kernel
theorem dL_law_1519 : decode cL_law 1519 = .ok (.iaload, 1) := by decide +kernel
theorem dL_law_1520 : decode cL_law 1520 = .ok (.invokevirtual 189, 3) := by decide +kernel
theorem dL_law_1523 : decode cL_law 1523 = .ok (.istore 7, 2) := by decide +kernel
theorem dL_law_1525 : decode cL_law 1525 = .ok (.aload_n 2, 1) := by decide +kernel
theorem dL_law_1526 : decode cL_law 1526 = .ok (.invokevirtual 119, 3) := by decide +kernel
theorem dL_law_1529 : decode cL_law 1529 = .ok (.iload 6, 2) := by decide +kernel
theorem dL_law_1531 : decode cL_law 1531 = .ok (.if_icmp .eq 5, 3) := by decide +kernel
theorem dL_law_1534 : decode cL_law 1534 = .ok (.iconst 0, 1) := by decide +kernel
theorem dL_law_1535 : decode cL_law 1535 = .ok (.ireturn, 1) := by decide +kernel
theorem dL_law_1536 : decode cL_law 1536 = .ok (.iload 6, 2) := by decide +kernel
theorem dL_law_1538 : decode cL_law 1538 = .ok (.ifCond .ne 15, 3) := by decide +kernel
theorem dL_law_1541 : decode cL_law 1541 = .ok (.aload_n 3, 1) := by decide +kernel
theorem dL_law_1542 : decode cL_law 1542 = .ok (.iconst 0, 1) := by decide +kernel
theorem dL_law_1543 : decode cL_law 1543 = .ok (.laload, 1) := by decide +kernel
theorem dL_law_1544 : decode cL_law 1544 = .ok (.iload 7, 2) := by decide +kernel
theorem dL_law_1546 : decode cL_law 1546 = .ok (.i2l, 1) := by decide +kernel
theorem dL_law_1547 : decode cL_law 1547 = .ok (.lcmp, 1) := by decide +kernel
theorem dL_law_1548 : decode cL_law 1548 = .ok (.ifCond .eq 5, 3) := by decide +kernel
theorem dL_law_1551 : decode cL_law 1551 = .ok (.iconst 0, 1) := by decide +kernel
theorem dL_law_1552 : decode cL_law 1552 = .ok (.ireturn, 1) := by decide +kernel
theorem dL_law_1553 : decode cL_law 1553 = .ok (.goto 417, 3) := by decide +kernel
theorem dL_law_1556 : decode cL_law 1556 = .ok (.aload_n 1, 1) := by decide +kernel
theorem dL_law_1557 : decode cL_law 1557 = .ok (.aload_n 0, 1) := by decide +kernel
theorem dL_law_1558 : decode cL_law 1558 = .ok (.iload 5, 2) := by decide +kernel
theorem dL_law_1560 : decode cL_law 1560 = .ok (.iconst 1, 1) := by decide +kernel
theorem dL_law_1561 : decode cL_law 1561 = .ok (.iadd, 1) := by decide +kernel
theorem dL_law_1562 : decode cL_law 1562 = .ok (.iaload, 1) := by decide +kernel
theorem dL_law_1563 : decode cL_law 1563 = .ok (.aload 4, 2) := by decide +kernel
theorem dL_law_1565 : decode cL_law 1565 = .ok (.invokestatic 190, 3) := by decide +kernel
theorem dL_law_1568 : decode cL_law 1568 = .ok (.istore 6, 2) := by decide +kernel
theorem dL_law_1570 : decode cL_law 1570 = .ok (.aload_n 2, 1) := by decide +kernel
theorem dL_law_1571 : decode cL_law 1571 = .ok (.aload_n 0, 1) := by decide +kernel
theorem dL_law_1572 : decode cL_law 1572 = .ok (.iload 5, 2) := by decide +kernel
theorem dL_law_1574 : decode cL_law 1574 = .ok (.iconst 1, 1) := by decide +kernel
theorem dL_law_1575 : decode cL_law 1575 = .ok (.iadd, 1) := by decide +kernel
theorem dL_law_1576 : decode cL_law 1576 = .ok (.iaload, 1) := by decide +kernel
theorem dL_law_1577 : decode cL_law 1577 = .ok (.invokevirtual 193, 3) := by decide +kernel
theorem dL_law_1580 : decode cL_law 1580 = .ok (.fstore 7, 2) := by decide +kernel
theorem dL_law_1582 : decode cL_law 1582 = .ok (.aload_n 2, 1) := by decide +kernel
theorem dL_law_1583 : decode cL_law 1583 = .ok (.invokevirtual 119, 3) := by decide +kernel
theorem dL_law_1586 : decode cL_law 1586 = .ok (.iload 6, 2) := by decide +kernel
theorem dL_law_1588 : decode cL_law 1588 = .ok (.if_icmp .eq 5, 3) := by decide +kernel
theorem dL_law_1591 : decode cL_law 1591 = .ok (.iconst 0, 1) := by decide +kernel
theorem dL_law_1592 : decode cL_law 1592 = .ok (.ireturn, 1) := by decide +kernel
theorem dL_law_1593 : decode cL_law 1593 = .ok (.iload 6, 2) := by decide +kernel
theorem dL_law_1595 : decode cL_law 1595 = .ok (.ifCond .ne 36, 3) := by decide +kernel
theorem dL_law_1598 : decode cL_law 1598 = .ok (.aload 4, 2) := by decide +kernel
theorem dL_law_1600 : decode cL_law 1600 = .ok (.iconst 0, 1) := by decide +kernel
theorem dL_law_1601 : decode cL_law 1601 = .ok (.daload, 1) := by decide +kernel
theorem dL_law_1602 : decode cL_law 1602 = .ok (.fload 7, 2) := by decide +kernel
theorem dL_law_1604 : decode cL_law 1604 = .ok (.f2d, 1) := by decide +kernel
theorem dL_law_1605 : decode cL_law 1605 = .ok (.dcmp .l, 1) := by decide +kernel
theorem dL_law_1606 : decode cL_law 1606 = .ok (.ifCond .eq 25, 3) := by decide +kernel
theorem dL_law_1609 : decode cL_law 1609 = .ok (.aload 4, 2) := by decide +kernel
theorem dL_law_1611 : decode cL_law 1611 = .ok (.iconst 0, 1) := by decide +kernel
theorem dL_law_1612 : decode cL_law 1612 = .ok (.daload, 1) := by decide +kernel
theorem dL_law_1613 : decode cL_law 1613 = .ok (.aload 4, 2) := by decide +kernel
theorem dL_law_1615 : decode cL_law 1615 = .ok (.iconst 0, 1) := by decide +kernel
theorem dL_law_1616 : decode cL_law 1616 = .ok (.daload, 1) := by decide +kernel
theorem dL_law_1617 : decode cL_law 1617 = .ok (.dcmp .l, 1) := by decide +kernel
theorem dL_law_1618 : decode cL_law 1618 = .ok (.ifCond .eq 11, 3) := by decide +kernel
theorem dL_law_1621 : decode cL_law 1621 = .ok (.fload 7, 2) := by decide +kernel
theorem dL_law_1623 : decode cL_law 1623 = .ok (.fload 7, 2) := by decide +kernel
theorem dL_law_1625 : decode cL_law 1625 = .ok (.fcmp .l, 1) := by decide +kernel
theorem dL_law_1626 : decode cL_law 1626 = .ok (.ifCond .ne 5, 3) := by decide +kernel
theorem dL_law_1629 : decode cL_law 1629 = .ok (.iconst 0, 1) := by decide +kernel
theorem dL_law_1630 : decode cL_law 1630 = .ok (.ireturn, 1) := by decide +kernel
theorem dL_law_1631 : decode cL_law 1631 = .ok (.goto 339, 3) := by decide +kernel
theorem dL_law_1634 : decode cL_law 1634 = .ok (.aload_n 1, 1) := by decide +kernel
theorem dL_law_1635 : decode cL_law 1635 = .ok (.aload 4, 2) := by decide +kernel
theorem dL_law_1637 : decode cL_law 1637 = .ok (.invokestatic 194, 3) := by decide +kernel
theorem dL_law_1640 : decode cL_law 1640 = .ok (.istore 6, 2) := by decide +kernel
theorem dL_law_1642 : decode cL_law 1642 = .ok (.aload_n 2, 1) := by decide +kernel
theorem dL_law_1643 : decode cL_law 1643 = .ok (.invokevirtual 197, 3) := by decide +kernel
theorem dL_law_1646 : decode cL_law 1646 = .ok (.dstore 7, 2) := by decide +kernel
theorem dL_law_1648 : decode cL_law 1648 = .ok (.aload_n 2, 1) := by decide +kernel
theorem dL_law_1649 : decode cL_law 1649 = .ok (.invokevirtual 119, 3) := by decide +kernel
theorem dL_law_1652 : decode cL_law 1652 = .ok (.iload 6, 2) := by decide +kernel
theorem dL_law_1654 : decode cL_law 1654 = .ok (.if_icmp .eq 5, 3) := by decide +kernel
theorem dL_law_1657 : decode cL_law 1657 = .ok (.iconst 0, 1) := by decide +kernel
theorem dL_law_1658 : decode cL_law 1658 = .ok (.ireturn, 1) := by decide +kernel
theorem dL_law_1659 : decode cL_law 1659 = .ok (.iload 6, 2) := by decide +kernel
theorem dL_law_1661 : decode cL_law 1661 = .ok (.ifCond .ne 35, 3) := by decide +kernel
theorem dL_law_1664 : decode cL_law 1664 = .ok (.aload 4, 2) := by decide +kernel
theorem dL_law_1666 : decode cL_law 1666 = .ok (.iconst 0, 1) := by decide +kernel
theorem dL_law_1667 : decode cL_law 1667 = .ok (.daload, 1) := by decide +kernel
theorem dL_law_1668 : decode cL_law 1668 = .ok (.dload 7, 2) := by decide +kernel
theorem dL_law_1670 : decode cL_law 1670 = .ok (.dcmp .l, 1) := by decide +kernel
theorem dL_law_1671 : decode cL_law 1671 = .ok (.ifCond .eq 25, 3) := by decide +kernel
theorem dL_law_1674 : decode cL_law 1674 = .ok (.aload 4, 2) := by decide +kernel
theorem dL_law_1676 : decode cL_law 1676 = .ok (.iconst 0, 1) := by decide +kernel
theorem dL_law_1677 : decode cL_law 1677 = .ok (.daload, 1) := by decide +kernel
theorem dL_law_1678 : decode cL_law 1678 = .ok (.aload 4, 2) := by decide +kernel
theorem dL_law_1680 : decode cL_law 1680 = .ok (.iconst 0, 1) := by decide +kernel
theorem dL_law_1681 : decode cL_law 1681 = .ok (.daload, 1) := by decide +kernel
theorem dL_law_1682 : decode cL_law 1682 = .ok (.dcmp .l, 1) := by decide +kernel
theorem dL_law_1683 : decode cL_law 1683 = .ok (.ifCond .eq 11, 3) := by decide +kernel
theorem dL_law_1686 : decode cL_law 1686 = .ok (.dload 7, 2) := by decide +kernel
theorem dL_law_1688 : decode cL_law 1688 = .ok (.dload 7, 2) := by decide +kernel
theorem dL_law_1690 : decode cL_law 1690 = .ok (.dcmp .l, 1) := by decide +kernel
theorem dL_law_1691 : decode cL_law 1691 = .ok (.ifCond .ne 5, 3) := by decide +kernel
theorem dL_law_1694 : decode cL_law 1694 = .ok (.iconst 0, 1) := by decide +kernel
theorem dL_law_1695 : decode cL_law 1695 = .ok (.ireturn, 1) := by decide +kernel
theorem dL_law_1696 : decode cL_law 1696 = .ok (.goto 274, 3) := by decide +kernel
theorem dL_law_1699 : decode cL_law 1699 = .ok (.aload_n 1, 1) := by decide +kernel
theorem dL_law_1700 : decode cL_law 1700 = .ok (.aload_n 0, 1) := by decide +kernel
theorem dL_law_1701 : decode cL_law 1701 = .ok (.iload 5, 2) := by decide +kernel
theorem dL_law_1703 : decode cL_law 1703 = .ok (.iconst 1, 1) := by decide +kernel
theorem dL_law_1704 : decode cL_law 1704 = .ok (.iadd, 1) := by decide +kernel
theorem dL_law_1705 : decode cL_law 1705 = .ok (.iaload, 1) := by decide +kernel
theorem dL_law_1706 : decode cL_law 1706 = .ok (.aload_n 0, 1) := by decide +kernel
theorem dL_law_1707 : decode cL_law 1707 = .ok (.iload 5, 2) := by decide +kernel
theorem dL_law_1709 : decode cL_law 1709 = .ok (.iconst 2, 1) := by decide +kernel
theorem dL_law_1710 : decode cL_law 1710 = .ok (.iadd, 1) := by decide +kernel
theorem dL_law_1711 : decode cL_law 1711 = .ok (.iaload, 1) := by decide +kernel
theorem dL_law_1712 : decode cL_law 1712 = .ok (.aload_n 3, 1) := by decide +kernel
theorem dL_law_1713 : decode cL_law 1713 = .ok (.invokestatic 198, 3) := by decide +kernel
theorem dL_law_1716 : decode cL_law 1716 = .ok (.istore 6, 2) := by decide +kernel
theorem dL_law_1718 : decode cL_law 1718 = .ok (.aload_n 2, 1) := by decide +kernel
theorem dL_law_1719 : decode cL_law 1719 = .ok (.aload_n 0, 1) := by decide +kernel
theorem dL_law_1720 : decode cL_law 1720 = .ok (.iload 5, 2) := by decide +kernel
theorem dL_law_1722 : decode cL_law 1722 = .ok (.iconst 1, 1) := by decide +kernel
theorem dL_law_1723 : decode cL_law 1723 = .ok (.iadd, 1) := by decide +kernel
theorem dL_law_1724 : decode cL_law 1724 = .ok (.iaload, 1) := by decide +kernel
theorem dL_law_1725 : decode cL_law 1725 = .ok (.aload_n 0, 1) := by decide +kernel
theorem dL_law_1726 : decode cL_law 1726 = .ok (.iload 5, 2) := by decide +kernel
theorem dL_law_1728 : decode cL_law 1728 = .ok (.iconst 2, 1) := by decide +kernel
theorem dL_law_1729 : decode cL_law 1729 = .ok (.iadd, 1) := by decide +kernel
theorem dL_law_1730 : decode cL_law 1730 = .ok (.iaload, 1) := by decide +kernel
theorem dL_law_1731 : decode cL_law 1731 = .ok (.invokevirtual 200, 3) := by decide +kernel
theorem dL_law_1734 : decode cL_law 1734 = .ok (.istore 7, 2) := by decide +kernel
theorem dL_law_1736 : decode cL_law 1736 = .ok (.aload_n 2, 1) := by decide +kernel
theorem dL_law_1737 : decode cL_law 1737 = .ok (.invokevirtual 119, 3) := by decide +kernel
theorem dL_law_1740 : decode cL_law 1740 = .ok (.iload 6, 2) := by decide +kernel
theorem dL_law_1742 : decode cL_law 1742 = .ok (.if_icmp .eq 5, 3) := by decide +kernel
theorem dL_law_1745 : decode cL_law 1745 = .ok (.iconst 0, 1) := by decide +kernel
theorem dL_law_1746 : decode cL_law 1746 = .ok (.ireturn, 1) := by decide +kernel
theorem dL_law_1747 : decode cL_law 1747 = .ok (.iload 6, 2) := by decide +kernel
theorem dL_law_1749 : decode cL_law 1749 = .ok (.ifCond .ne 15, 3) := by decide +kernel
theorem dL_law_1752 : decode cL_law 1752 = .ok (.aload_n 3, 1) := by decide +kernel
theorem dL_law_1753 : decode cL_law 1753 = .ok (.iconst 0, 1) := by decide +kernel
theorem dL_law_1754 : decode cL_law 1754 = .ok (.laload, 1) := by decide +kernel
theorem dL_law_1755 : decode cL_law 1755 = .ok (.iload 7, 2) := by decide +kernel
theorem dL_law_1757 : decode cL_law 1757 = .ok (.i2l, 1) := by decide +kernel
theorem dL_law_1758 : decode cL_law 1758 = .ok (.lcmp, 1) := by decide +kernel
theorem dL_law_1759 : decode cL_law 1759 = .ok (.ifCond .eq 5, 3) := by decide +kernel
theorem dL_law_1762 : decode cL_law 1762 = .ok (.iconst 0, 1) := by decide +kernel
theorem dL_law_1763 : decode cL_law 1763 = .ok (.ireturn, 1) := by decide +kernel
theorem dL_law_1764 : decode cL_law 1764 = .ok (.goto 206, 3) := by decide +kernel
theorem dL_law_1767 : decode cL_law 1767 = .ok (.aload_n 1, 1) := by decide +kernel
theorem dL_law_1768 : decode cL_law 1768 = .ok (.aload_n 0, 1) := by decide +kernel
theorem dL_law_1769 : decode cL_law 1769 = .ok (.iload 5, 2) := by decide +kernel
theorem dL_law_1771 : decode cL_law 1771 = .ok (.iconst 1, 1) := by decide +kernel
theorem dL_law_1772 : decode cL_law 1772 = .ok (.iadd, 1) := by decide +kernel
theorem dL_law_1773 : decode cL_law 1773 = .ok (.iaload, 1) := by decide +kernel
theorem dL_law_1774 : decode cL_law 1774 = .ok (.i2c, 1) := by decide +kernel
theorem dL_law_1775 : decode cL_law 1775 = .ok (.aload_n 3, 1) := by decide +kernel
theorem dL_law_1776 : decode cL_law 1776 = .ok (.invokestatic 201, 3) := by decide +kernel
theorem dL_law_1779 : decode cL_law 1779 = .ok (.istore 6, 2) := by decide +kernel
theorem dL_law_1781 : decode cL_law 1781 = .ok (.aload_n 2, 1) := by decide +kernel
theorem dL_law_1782 : decode cL_law 1782 = .ok (.aload_n 0, 1) := by decide +kernel
theorem dL_law_1783 : decode cL_law 1783 = .ok (.iload 5, 2) := by decide +kernel
theorem dL_law_1785 : decode cL_law 1785 = .ok (.iconst 1, 1) := by decide +kernel
theorem dL_law_1786 : decode cL_law 1786 = .ok (.iadd, 1) := by decide +kernel
theorem dL_law_1787 : decode cL_law 1787 = .ok (.iaload, 1) := by decide +kernel
theorem dL_law_1788 : decode cL_law 1788 = .ok (.i2c, 1) := by decide +kernel
theorem dL_law_1789 : decode cL_law 1789 = .ok (.invokevirtual 204, 3) := by decide +kernel
theorem dL_law_1792 : decode cL_law 1792 = .ok (.istore 7, 2) := by decide +kernel
theorem dL_law_1794 : decode cL_law 1794 = .ok (.aload_n 2, 1) := by decide +kernel
theorem dL_law_1795 : decode cL_law 1795 = .ok (.invokevirtual 119, 3) := by decide +kernel
theorem dL_law_1798 : decode cL_law 1798 = .ok (.iload 6, 2) := by decide +kernel
theorem dL_law_1800 : decode cL_law 1800 = .ok (.if_icmp .eq 5, 3) := by decide +kernel
theorem dL_law_1803 : decode cL_law 1803 = .ok (.iconst 0, 1) := by decide +kernel
theorem dL_law_1804 : decode cL_law 1804 = .ok (.ireturn, 1) := by decide +kernel
theorem dL_law_1805 : decode cL_law 1805 = .ok (.iload 6, 2) := by decide +kernel
theorem dL_law_1807 : decode cL_law 1807 = .ok (.ifCond .ne 15, 3) := by decide +kernel
theorem dL_law_1810 : decode cL_law 1810 = .ok (.aload_n 3, 1) := by decide +kernel
theorem dL_law_1811 : decode cL_law 1811 = .ok (.iconst 0, 1) := by decide +kernel
theorem dL_law_1812 : decode cL_law 1812 = .ok (.laload, 1) := by decide +kernel
theorem dL_law_1813 : decode cL_law 1813 = .ok (.iload 7, 2) := by decide +kernel
theorem dL_law_1815 : decode cL_law 1815 = .ok (.i2l, 1) := by decide +kernel
theorem dL_law_1816 : decode cL_law 1816 = .ok (.lcmp, 1) := by decide +kernel
theorem dL_law_1817 : decode cL_law 1817 = .ok (.ifCond .eq 5, 3) := by decide +kernel
theorem dL_law_1820 : decode cL_law 1820 = .ok (.iconst 0, 1) := by decide +kernel
theorem dL_law_1821 : decode cL_law 1821 = .ok (.ireturn, 1) := by decide +kernel
theorem dL_law_1822 : decode cL_law 1822 = .ok (.goto 148, 3) := by decide +kernel
theorem dL_law_1825 : decode cL_law 1825 = .ok (.aload_n 1, 1) := by decide +kernel
theorem dL_law_1826 : decode cL_law 1826 = .ok (.aload_n 3, 1) := by decide +kernel
theorem dL_law_1827 : decode cL_law 1827 = .ok (.invokestatic 205, 3) := by decide +kernel
theorem dL_law_1830 : decode cL_law 1830 = .ok (.istore 6, 2) := by decide +kernel
theorem dL_law_1832 : decode cL_law 1832 = .ok (.aload_n 2, 1) := by decide +kernel
theorem dL_law_1833 : decode cL_law 1833 = .ok (.invokevirtual 208, 3) := by decide +kernel
theorem dL_law_1836 : decode cL_law 1836 = .ok (.istore 7, 2) := by decide +kernel
theorem dL_law_1838 : decode cL_law 1838 = .ok (.aload_n 2, 1) := by decide +kernel
theorem dL_law_1839 : decode cL_law 1839 = .ok (.invokevirtual 119, 3) := by decide +kernel
theorem dL_law_1842 : decode cL_law 1842 = .ok (.iload 6, 2) := by decide +kernel
theorem dL_law_1844 : decode cL_law 1844 = .ok (.if_icmp .eq 5, 3) := by decide +kernel
theorem dL_law_1847 : decode cL_law 1847 = .ok (.iconst 0, 1) := by decide +kernel
theorem dL_law_1848 : decode cL_law 1848 = .ok (.ireturn, 1) := by decide +kernel
theorem dL_law_1849 : decode cL_law 1849 = .ok (.iload 6, 2) := by decide +kernel
theorem dL_law_1851 : decode cL_law 1851 = .ok (.ifCond .ne 15, 3) := by decide +kernel
theorem dL_law_1854 : decode cL_law 1854 = .ok (.aload_n 3, 1) := by decide +kernel
theorem dL_law_1855 : decode cL_law 1855 = .ok (.iconst 0, 1) := by decide +kernel
theorem dL_law_1856 : decode cL_law 1856 = .ok (.laload, 1) := by decide +kernel
theorem dL_law_1857 : decode cL_law 1857 = .ok (.iload 7, 2) := by decide +kernel
theorem dL_law_1859 : decode cL_law 1859 = .ok (.i2l, 1) := by decide +kernel
theorem dL_law_1860 : decode cL_law 1860 = .ok (.lcmp, 1) := by decide +kernel
theorem dL_law_1861 : decode cL_law 1861 = .ok (.ifCond .eq 5, 3) := by decide +kernel
theorem dL_law_1864 : decode cL_law 1864 = .ok (.iconst 0, 1) := by decide +kernel
theorem dL_law_1865 : decode cL_law 1865 = .ok (.ireturn, 1) := by decide +kernel
theorem dL_law_1866 : decode cL_law 1866 = .ok (.goto 104, 3) := by decide +kernel
theorem dL_law_1869 : decode cL_law 1869 = .ok (.aload_n 1, 1) := by decide +kernel
theorem dL_law_1870 : decode cL_law 1870 = .ok (.aload_n 3, 1) := by decide +kernel
theorem dL_law_1871 : decode cL_law 1871 = .ok (.invokestatic 209, 3) := by decide +kernel
theorem dL_law_1874 : decode cL_law 1874 = .ok (.istore 6, 2) := by decide +kernel
theorem dL_law_1876 : decode cL_law 1876 = .ok (.aload_n 2, 1) := by decide +kernel
theorem dL_law_1877 : decode cL_law 1877 = .ok (.invokevirtual 211, 3) := by decide +kernel
theorem dL_law_1880 : decode cL_law 1880 = .ok (.istore 7, 2) := by decide +kernel
theorem dL_law_1882 : decode cL_law 1882 = .ok (.aload_n 2, 1) := by decide +kernel
theorem dL_law_1883 : decode cL_law 1883 = .ok (.invokevirtual 119, 3) := by decide +kernel
theorem dL_law_1886 : decode cL_law 1886 = .ok (.iload 6, 2) := by decide +kernel
theorem dL_law_1888 : decode cL_law 1888 = .ok (.if_icmp .eq 5, 3) := by decide +kernel
theorem dL_law_1891 : decode cL_law 1891 = .ok (.iconst 0, 1) := by decide +kernel
theorem dL_law_1892 : decode cL_law 1892 = .ok (.ireturn, 1) := by decide +kernel
theorem dL_law_1893 : decode cL_law 1893 = .ok (.iload 6, 2) := by decide +kernel
theorem dL_law_1895 : decode cL_law 1895 = .ok (.ifCond .ne 15, 3) := by decide +kernel
theorem dL_law_1898 : decode cL_law 1898 = .ok (.aload_n 3, 1) := by decide +kernel
theorem dL_law_1899 : decode cL_law 1899 = .ok (.iconst 0, 1) := by decide +kernel
theorem dL_law_1900 : decode cL_law 1900 = .ok (.laload, 1) := by decide +kernel
theorem dL_law_1901 : decode cL_law 1901 = .ok (.iload 7, 2) := by decide +kernel
theorem dL_law_1903 : decode cL_law 1903 = .ok (.i2l, 1) := by decide +kernel
theorem dL_law_1904 : decode cL_law 1904 = .ok (.lcmp, 1) := by decide +kernel
theorem dL_law_1905 : decode cL_law 1905 = .ok (.ifCond .eq 5, 3) := by decide +kernel
theorem dL_law_1908 : decode cL_law 1908 = .ok (.iconst 0, 1) := by decide +kernel
theorem dL_law_1909 : decode cL_law 1909 = .ok (.ireturn, 1) := by decide +kernel
theorem dL_law_1910 : decode cL_law 1910 = .ok (.goto 60, 3) := by decide +kernel
theorem dL_law_1913 : decode cL_law 1913 = .ok (.aload_n 1, 1) := by decide +kernel
theorem dL_law_1914 : decode cL_law 1914 = .ok (.invokevirtual 212, 3) := by decide +kernel
theorem dL_law_1917 : decode cL_law 1917 = .ok (.aload_n 2, 1) := by decide +kernel
theorem dL_law_1918 : decode cL_law 1918 = .ok (.invokevirtual 215, 3) := by decide +kernel
theorem dL_law_1921 : decode cL_law 1921 = .ok (.if_icmp .eq 49, 3) := by decide +kernel
theorem dL_law_1924 : decode cL_law 1924 = .ok (.iconst 0, 1) := by decide +kernel
theorem dL_law_1925 : decode cL_law 1925 = .ok (.ireturn, 1) := by decide +kernel
theorem dL_law_1926 : decode cL_law 1926 = .ok (.aload_n 1, 1) := by decide +kernel
theorem dL_law_1927 : decode cL_law 1927 = .ok (.aload_n 3, 1) := by decide +kernel
theorem dL_law_1928 : decode cL_law 1928 = .ok (.invokestatic 216, 3) := by decide +kernel
theorem dL_law_1931 : decode cL_law 1931 = .ok (.istore 6, 2) := by decide +kernel
theorem dL_law_1933 : decode cL_law 1933 = .ok (.aload_n 2, 1) := by decide +kernel
theorem dL_law_1934 : decode cL_law 1934 = .ok (.invokevirtual 218, 3) := by decide +kernel
theorem dL_law_1937 : decode cL_law 1937 = .ok (.istore 7, 2) := by decide +kernel
theorem dL_law_1939 : decode cL_law 1939 = .ok (.aload_n 2, 1) := by decide +kernel
theorem dL_law_1940 : decode cL_law 1940 = .ok (.invokevirtual 119, 3) := by decide +kernel
theorem dL_law_1943 : decode cL_law 1943 = .ok (.iload 6, 2) := by decide +kernel
theorem dL_law_1945 : decode cL_law 1945 = .ok (.if_icmp .eq 5, 3) := by decide +kernel
theorem dL_law_1948 : decode cL_law 1948 = .ok (.iconst 0, 1) := by decide +kernel
theorem dL_law_1949 : decode cL_law 1949 = .ok (.ireturn, 1) := by decide +kernel
theorem dL_law_1950 : decode cL_law 1950 = .ok (.iload 6, 2) := by decide +kernel
theorem dL_law_1952 : decode cL_law 1952 = .ok (.ifCond .ne 15, 3) := by decide +kernel
theorem dL_law_1955 : decode cL_law 1955 = .ok (.aload_n 3, 1) := by decide +kernel
theorem dL_law_1956 : decode cL_law 1956 = .ok (.iconst 0, 1) := by decide +kernel
theorem dL_law_1957 : decode cL_law 1957 = .ok (.laload, 1) := by decide +kernel
theorem dL_law_1958 : decode cL_law 1958 = .ok (.iload 7, 2) := by decide +kernel
theorem dL_law_1960 : decode cL_law 1960 = .ok (.i2l, 1) := by decide +kernel
theorem dL_law_1961 : decode cL_law 1961 = .ok (.lcmp, 1) := by decide +kernel
theorem dL_law_1962 : decode cL_law 1962 = .ok (.ifCond .eq 5, 3) := by decide +kernel
theorem dL_law_1965 : decode cL_law 1965 = .ok (.iconst 0, 1) := by decide +kernel
theorem dL_law_1966 : decode cL_law 1966 = .ok (.ireturn, 1) := by decide +kernel
theorem dL_law_1967 : decode cL_law 1967 = .ok (.goto 3, 3) := by decide +kernel
theorem dL_law_1970 : decode cL_law 1970 = .ok (.iinc 5 4, 3) := by decide +kernel
theorem dL_law_1973 : decode cL_law 1973 = .ok (.goto (-1945), 3) := by decide +kernel
theorem dL_law_1976 : decode cL_law 1976 = .ok (.iconst 1, 1) := by decide +kernel
theorem dL_law_1977 : decode cL_law 1977 = .ok (.ireturn, 1) := by decide +kernel
end
