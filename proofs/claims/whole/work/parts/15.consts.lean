section ZK
theorem zi_m1 : Int32.ofInt (-1) = (-1 : Int32) := by decide
theorem zi_0 : Int32.ofInt (0) = (0 : Int32) := by decide
theorem zi_1 : Int32.ofInt (1) = (1 : Int32) := by decide
theorem zi_2 : Int32.ofInt (2) = (2 : Int32) := by decide
theorem zi_3 : Int32.ofInt (3) = (3 : Int32) := by decide
theorem zi_4 : Int32.ofInt (4) = (4 : Int32) := by decide
theorem zi_5 : Int32.ofInt (5) = (5 : Int32) := by decide
theorem zi_1000 : Int32.ofInt (1000) = (1000 : Int32) := by decide
theorem zb_m100 : (Int8.ofInt (-100)).toInt32 = (-100 : Int32) := by decide
theorem zb_6 : (Int8.ofInt (6)).toInt32 = (6 : Int32) := by decide
theorem zb_7 : (Int8.ofInt (7)).toInt32 = (7 : Int32) := by decide
theorem zb_8 : (Int8.ofInt (8)).toInt32 = (8 : Int32) := by decide
theorem zb_10 : (Int8.ofInt (10)).toInt32 = (10 : Int32) := by decide
theorem zb_16 : (Int8.ofInt (16)).toInt32 = (16 : Int32) := by decide
theorem zb_19 : (Int8.ofInt (19)).toInt32 = (19 : Int32) := by decide
theorem zb_20 : (Int8.ofInt (20)).toInt32 = (20 : Int32) := by decide
theorem zb_31 : (Int8.ofInt (31)).toInt32 = (31 : Int32) := by decide
theorem zb_32 : (Int8.ofInt (32)).toInt32 = (32 : Int32) := by decide
theorem zb_40 : (Int8.ofInt (40)).toInt32 = (40 : Int32) := by decide
theorem zb_44 : (Int8.ofInt (44)).toInt32 = (44 : Int32) := by decide
theorem zb_48 : (Int8.ofInt (48)).toInt32 = (48 : Int32) := by decide
theorem zb_49 : (Int8.ofInt (49)).toInt32 = (49 : Int32) := by decide
theorem zb_57 : (Int8.ofInt (57)).toInt32 = (57 : Int32) := by decide
theorem zb_59 : (Int8.ofInt (59)).toInt32 = (59 : Int32) := by decide
theorem zb_60 : (Int8.ofInt (60)).toInt32 = (60 : Int32) := by decide
theorem zb_79 : (Int8.ofInt (79)).toInt32 = (79 : Int32) := by decide
theorem zb_99 : (Int8.ofInt (99)).toInt32 = (99 : Int32) := by decide
theorem zb_100 : (Int8.ofInt (100)).toInt32 = (100 : Int32) := by decide
theorem zb_111 : (Int8.ofInt (111)).toInt32 = (111 : Int32) := by decide
theorem zb_114 : (Int8.ofInt (114)).toInt32 = (114 : Int32) := by decide
theorem zb_115 : (Int8.ofInt (115)).toInt32 = (115 : Int32) := by decide
theorem zb_116 : (Int8.ofInt (116)).toInt32 = (116 : Int32) := by decide
theorem zb_127 : (Int8.ofInt (127)).toInt32 = (127 : Int32) := by decide
theorem zs_139 : (Int16.ofInt (139)).toInt32 = (139 : Int32) := by decide
theorem zs_299 : (Int16.ofInt (299)).toInt32 = (299 : Int32) := by decide
theorem zs_399 : (Int16.ofInt (399)).toInt32 = (399 : Int32) := by decide
theorem zs_999 : (Int16.ofInt (999)).toInt32 = (999 : Int32) := by decide
theorem zs_1000 : (Int16.ofInt (1000)).toInt32 = (1000 : Int32) := by decide
theorem zs_2394 : (Int16.ofInt (2394)).toInt32 = (2394 : Int32) := by decide
theorem zs_9999 : (Int16.ofInt (9999)).toInt32 = (9999 : Int32) := by decide
theorem zl_0 : Int64.ofNat ((0 : Fin 2) : Nat) = (0 : Int64) := by decide
theorem zl_1 : Int64.ofNat ((1 : Fin 2) : Nat) = (1 : Int64) := by decide
theorem zi_inc {n : Int} {v : Int32} (x : Int32) (h : Int32.ofInt n = v) : x + Int32.ofInt n = x + v := by rw [h]
end ZK
