/-! constants -/
theorem kb_m10 : (Int8.ofInt (-10)).toInt32 = (-10 : Int32) := by decide +kernel
theorem kb_m100 : (Int8.ofInt (-100)).toInt32 = (-100 : Int32) := by decide +kernel
theorem kb_10 : (Int8.ofInt (10)).toInt32 = (10 : Int32) := by decide +kernel
theorem kb_100 : (Int8.ofInt (100)).toInt32 = (100 : Int32) := by decide +kernel
theorem kb_11 : (Int8.ofInt (11)).toInt32 = (11 : Int32) := by decide +kernel
theorem kb_12 : (Int8.ofInt (12)).toInt32 = (12 : Int32) := by decide +kernel
theorem kb_124 : (Int8.ofInt (124)).toInt32 = (124 : Int32) := by decide +kernel
theorem kb_13 : (Int8.ofInt (13)).toInt32 = (13 : Int32) := by decide +kernel
theorem kb_15 : (Int8.ofInt (15)).toInt32 = (15 : Int32) := by decide +kernel
theorem kb_16 : (Int8.ofInt (16)).toInt32 = (16 : Int32) := by decide +kernel
theorem kb_20 : (Int8.ofInt (20)).toInt32 = (20 : Int32) := by decide +kernel
theorem kb_21 : (Int8.ofInt (21)).toInt32 = (21 : Int32) := by decide +kernel
theorem kb_24 : (Int8.ofInt (24)).toInt32 = (24 : Int32) := by decide +kernel
theorem kb_30 : (Int8.ofInt (30)).toInt32 = (30 : Int32) := by decide +kernel
theorem kb_31 : (Int8.ofInt (31)).toInt32 = (31 : Int32) := by decide +kernel
theorem kb_32 : (Int8.ofInt (32)).toInt32 = (32 : Int32) := by decide +kernel
theorem kb_33 : (Int8.ofInt (33)).toInt32 = (33 : Int32) := by decide +kernel
theorem kb_37 : (Int8.ofInt (37)).toInt32 = (37 : Int32) := by decide +kernel
theorem kb_38 : (Int8.ofInt (38)).toInt32 = (38 : Int32) := by decide +kernel
theorem kb_40 : (Int8.ofInt (40)).toInt32 = (40 : Int32) := by decide +kernel
theorem kb_41 : (Int8.ofInt (41)).toInt32 = (41 : Int32) := by decide +kernel
theorem kb_42 : (Int8.ofInt (42)).toInt32 = (42 : Int32) := by decide +kernel
theorem kb_43 : (Int8.ofInt (43)).toInt32 = (43 : Int32) := by decide +kernel
theorem kb_45 : (Int8.ofInt (45)).toInt32 = (45 : Int32) := by decide +kernel
theorem kb_47 : (Int8.ofInt (47)).toInt32 = (47 : Int32) := by decide +kernel
theorem kb_48 : (Int8.ofInt (48)).toInt32 = (48 : Int32) := by decide +kernel
theorem kb_50 : (Int8.ofInt (50)).toInt32 = (50 : Int32) := by decide +kernel
theorem kb_57 : (Int8.ofInt (57)).toInt32 = (57 : Int32) := by decide +kernel
theorem kb_6 : (Int8.ofInt (6)).toInt32 = (6 : Int32) := by decide +kernel
theorem kb_60 : (Int8.ofInt (60)).toInt32 = (60 : Int32) := by decide +kernel
theorem kb_61 : (Int8.ofInt (61)).toInt32 = (61 : Int32) := by decide +kernel
theorem kb_62 : (Int8.ofInt (62)).toInt32 = (62 : Int32) := by decide +kernel
theorem kb_63 : (Int8.ofInt (63)).toInt32 = (63 : Int32) := by decide +kernel
theorem kb_7 : (Int8.ofInt (7)).toInt32 = (7 : Int32) := by decide +kernel
theorem kb_70 : (Int8.ofInt (70)).toInt32 = (70 : Int32) := by decide +kernel
theorem kb_8 : (Int8.ofInt (8)).toInt32 = (8 : Int32) := by decide +kernel
theorem kb_9 : (Int8.ofInt (9)).toInt32 = (9 : Int32) := by decide +kernel
theorem kb_99 : (Int8.ofInt (99)).toInt32 = (99 : Int32) := by decide +kernel
theorem ki_m1 : Int32.ofInt (-1) = (-1 : Int32) := by decide +kernel
theorem ki_0 : Int32.ofInt (0) = (0 : Int32) := by decide +kernel
theorem ki_1 : Int32.ofInt (1) = (1 : Int32) := by decide +kernel
theorem ki_2 : Int32.ofInt (2) = (2 : Int32) := by decide +kernel
theorem ki_3 : Int32.ofInt (3) = (3 : Int32) := by decide +kernel
theorem ki_4 : Int32.ofInt (4) = (4 : Int32) := by decide +kernel
theorem ki_5 : Int32.ofInt (5) = (5 : Int32) := by decide +kernel
theorem kl_m1000000 : (-1000000 : Int64).toInt32 = (-1000000 : Int32) := by decide +kernel
theorem kl_m1000001 : (-1000001 : Int64).toInt32 = (-1000001 : Int32) := by decide +kernel
theorem kl_m1000002 : (-1000002 : Int64).toInt32 = (-1000002 : Int32) := by decide +kernel
theorem kl_m1000003 : (-1000003 : Int64).toInt32 = (-1000003 : Int32) := by decide +kernel
theorem kl_m1000004 : (-1000004 : Int64).toInt32 = (-1000004 : Int32) := by decide +kernel
theorem kl_m1000005 : (-1000005 : Int64).toInt32 = (-1000005 : Int32) := by decide +kernel
theorem kl_m1000006 : (-1000006 : Int64).toInt32 = (-1000006 : Int32) := by decide +kernel
theorem kl_1103515245 : (1103515245 : Int64).toInt32 = (1103515245 : Int32) := by decide +kernel
theorem kl_1431655765 : (1431655765 : Int64).toInt32 = (1431655765 : Int32) := by decide +kernel
theorem kl_252645135 : (252645135 : Int64).toInt32 = (252645135 : Int32) := by decide +kernel
theorem kl_858993459 : (858993459 : Int64).toInt32 = (858993459 : Int32) := by decide +kernel
theorem kl_99999 : (99999 : Int64).toInt32 = (99999 : Int32) := by decide +kernel
theorem kn_0 : (0 : Int32).toNatClampNeg = 0 ∧ 0 ≤ (0 : Int32) := by decide +kernel
theorem kn_1 : (1 : Int32).toNatClampNeg = 1 ∧ 0 ≤ (1 : Int32) := by decide +kernel
theorem kn_10 : (10 : Int32).toNatClampNeg = 10 ∧ 0 ≤ (10 : Int32) := by decide +kernel
theorem kn_16 : (16 : Int32).toNatClampNeg = 16 ∧ 0 ≤ (16 : Int32) := by decide +kernel
theorem kn_2 : (2 : Int32).toNatClampNeg = 2 ∧ 0 ≤ (2 : Int32) := by decide +kernel
theorem kn_24 : (24 : Int32).toNatClampNeg = 24 ∧ 0 ≤ (24 : Int32) := by decide +kernel
theorem kn_3 : (3 : Int32).toNatClampNeg = 3 ∧ 0 ≤ (3 : Int32) := by decide +kernel
theorem kn_30 : (30 : Int32).toNatClampNeg = 30 ∧ 0 ≤ (30 : Int32) := by decide +kernel
theorem kn_4 : (4 : Int32).toNatClampNeg = 4 ∧ 0 ≤ (4 : Int32) := by decide +kernel
theorem kn_5 : (5 : Int32).toNatClampNeg = 5 ∧ 0 ≤ (5 : Int32) := by decide +kernel
theorem kn_6 : (6 : Int32).toNatClampNeg = 6 ∧ 0 ≤ (6 : Int32) := by decide +kernel
theorem kn_60 : (60 : Int32).toNatClampNeg = 60 ∧ 0 ≤ (60 : Int32) := by decide +kernel
theorem kn_7 : (7 : Int32).toNatClampNeg = 7 ∧ 0 ≤ (7 : Int32) := by decide +kernel
theorem kn_8 : (8 : Int32).toNatClampNeg = 8 ∧ 0 ≤ (8 : Int32) := by decide +kernel
theorem kn_9 : (9 : Int32).toNatClampNeg = 9 ∧ 0 ≤ (9 : Int32) := by decide +kernel
theorem ks_10000 : (Int16.ofInt (10000)).toInt32 = (10000 : Int32) := by decide +kernel
theorem ks_1082 : (Int16.ofInt (1082)).toInt32 = (1082 : Int32) := by decide +kernel
theorem ks_12345 : (Int16.ofInt (12345)).toInt32 = (12345 : Int32) := by decide +kernel
theorem ks_20000 : (Int16.ofInt (20000)).toInt32 = (20000 : Int32) := by decide +kernel
theorem ks_20001 : (Int16.ofInt (20001)).toInt32 = (20001 : Int32) := by decide +kernel
theorem ks_20002 : (Int16.ofInt (20002)).toInt32 = (20002 : Int32) := by decide +kernel
theorem ks_20003 : (Int16.ofInt (20003)).toInt32 = (20003 : Int32) := by decide +kernel
theorem ks_20004 : (Int16.ofInt (20004)).toInt32 = (20004 : Int32) := by decide +kernel
theorem ks_20005 : (Int16.ofInt (20005)).toInt32 = (20005 : Int32) := by decide +kernel
theorem ks_20006 : (Int16.ofInt (20006)).toInt32 = (20006 : Int32) := by decide +kernel
theorem ks_20007 : (Int16.ofInt (20007)).toInt32 = (20007 : Int32) := by decide +kernel
theorem ks_20008 : (Int16.ofInt (20008)).toInt32 = (20008 : Int32) := by decide +kernel
theorem ks_20009 : (Int16.ofInt (20009)).toInt32 = (20009 : Int32) := by decide +kernel
theorem ks_20010 : (Int16.ofInt (20010)).toInt32 = (20010 : Int32) := by decide +kernel
theorem ks_255 : (Int16.ofInt (255)).toInt32 = (255 : Int32) := by decide +kernel
theorem ks_812 : (Int16.ofInt (812)).toInt32 = (812 : Int32) := by decide +kernel
theorem ks_872 : (Int16.ofInt (872)).toInt32 = (872 : Int32) := by decide +kernel
theorem ks_896 : (Int16.ofInt (896)).toInt32 = (896 : Int32) := by decide +kernel
theorem ks_999 : (Int16.ofInt (999)).toInt32 = (999 : Int32) := by decide +kernel
theorem ks_9999 : (Int16.ofInt (9999)).toInt32 = (9999 : Int32) := by decide +kernel
