-- DungeonBuilder.addRoom(IIII)I
theorem q_104_0 {d : Nat} (v1 v2 v3 v4 : Int) (M : ZM) : Q d 104 0 [zR 0, zI v1, zI v2, zI v3, zI v4] [] M = Cb (E d 65 [zR 19, zR 1] M) (fun v h => zrun (zevl d) 104 11 [zR 0, zI v1, zI v2, zI v3, zI v4] (v.toList ++ []) h) := by
  refine Eq.trans (s_aloadn f_104_0 rfl) ?_
  refine Eq.trans (s_getR f_104_1 g_104_22 (by decide) kn_0 rf_0_2) ?_
  refine Eq.trans (s_aloadn f_104_4 rfl) ?_
  refine Eq.trans (s_getR f_104_5 g_104_12 (by decide) kn_0 rf_0_0) ?_
  exact s_call [zR 19, zR 1] [] f_104_8 rfl c_104_72 rfl rfl (Nat.le_of_ble_eq_true rfl) (by show (zkn SH 19 == zown 65) = true; rw [show zkn SH 19 = 4 from kn_19]; rfl)
theorem q_104_11 {d : Nat} (v1 v2 v3 v4 : Int) (M : ZM) : Q d 104 11 [zR 0, zI v1, zI v2, zI v3, zI v4] [] M = Cb (E d 17 [zR 1, zI v1, zI v2, zI v3, zI v4] M) (fun v h => zrun (zevl d) 104 24 [zR 0, zI v1, zI v2, zI v3, zI v4] (v.toList ++ [zR 0]) h) := by
  refine Eq.trans (s_aloadn f_104_11 rfl) ?_
  refine Eq.trans (s_aloadn f_104_12 rfl) ?_
  refine Eq.trans (s_getR f_104_13 g_104_12 (by decide) kn_0 rf_0_0) ?_
  refine Eq.trans (s_iloadn f_104_16 rfl) ?_
  refine Eq.trans (s_iloadn f_104_17 rfl) ?_
  refine Eq.trans (s_iloadn f_104_18 rfl) ?_
  refine Eq.trans (s_iload f_104_19 rfl) ?_
  exact s_call [zR 1, zI v1, zI v2, zI v3, zI v4] [zR 0] f_104_21 rfl c_104_76 rfl rfl (Nat.le_of_ble_eq_true rfl) (by show (zkn SH 1 == zown 17) = true; rw [show zkn SH 1 = 1 from kn_1]; rfl)
theorem q_104_24 {d : Nat} (v1 v2 v3 v4 s1 : Int) (M : ZM) : Q d 104 24 [zR 0, zI v1, zI v2, zI v3, zI v4] [zI s1, zR 0] M = Cb (E d 145 [zR 0, zI s1] M) (fun v h => zrun (zevl d) 104 27 [zR 0, zI v1, zI v2, zI v3, zI v4] (v.toList ++ []) h) := by
  exact s_call [zR 0, zI s1] [] f_104_24 rfl c_104_80 rfl rfl (Nat.le_of_ble_eq_true rfl) (by show (zkn SH 0 == zown 145) = true; rw [show zkn SH 0 = 9 from kn_0]; rfl)
theorem q_104_27 {d : Nat} (v1 v2 v3 v4 s0 : Int) (M : ZM) : Q d 104 27 [zR 0, zI v1, zI v2, zI v3, zI v4] [zI s0] M = Rt (some (zI s0)) M := by
  exact s_iret f_104_27 t_104
theorem en_104 {d : Nat} (v1 v2 v3 v4 : Int) (M : ZM) : E (d + 1) 104 [zR 0, zI v1, zI v2, zI v3, zI v4] M = Q d 104 0 [zR 0, zI v1, zI v2, zI v3, zI v4] [] M := e_in (Nat.le_of_ble_eq_true rfl)
-- DungeonBuilder.addCorridor(II)I
theorem q_105_0 {d : Nat} (v1 v2 : Int) (M : ZM) : Q d 105 0 [zR 0, zI v1, zI v2] [] M = Cb (E d 65 [zR 19, zR 1] M) (fun v h => zrun (zevl d) 105 11 [zR 0, zI v1, zI v2] (v.toList ++ []) h) := by
  refine Eq.trans (s_aloadn f_105_0 rfl) ?_
  refine Eq.trans (s_getR f_105_1 g_105_22 (by decide) kn_0 rf_0_2) ?_
  refine Eq.trans (s_aloadn f_105_4 rfl) ?_
  refine Eq.trans (s_getR f_105_5 g_105_12 (by decide) kn_0 rf_0_0) ?_
  exact s_call [zR 19, zR 1] [] f_105_8 rfl c_105_72 rfl rfl (Nat.le_of_ble_eq_true rfl) (by show (zkn SH 19 == zown 65) = true; rw [show zkn SH 19 = 4 from kn_19]; rfl)
theorem q_105_11 {d : Nat} (v1 v2 : Int) (M : ZM) : Q d 105 11 [zR 0, zI v1, zI v2] [] M = Cb (E d 20 [zR 1, zI v1, zI v2] M) (fun v h => zrun (zevl d) 105 21 [zR 0, zI v1, zI v2] (v.toList ++ [zR 0]) h) := by
  refine Eq.trans (s_aloadn f_105_11 rfl) ?_
  refine Eq.trans (s_aloadn f_105_12 rfl) ?_
  refine Eq.trans (s_getR f_105_13 g_105_12 (by decide) kn_0 rf_0_0) ?_
  refine Eq.trans (s_iloadn f_105_16 rfl) ?_
  refine Eq.trans (s_iloadn f_105_17 rfl) ?_
  exact s_call [zR 1, zI v1, zI v2] [zR 0] f_105_18 rfl c_105_84 rfl rfl (Nat.le_of_ble_eq_true rfl) (by show (zkn SH 1 == zown 20) = true; rw [show zkn SH 1 = 1 from kn_1]; rfl)
theorem q_105_21 {d : Nat} (v1 v2 s1 : Int) (M : ZM) : Q d 105 21 [zR 0, zI v1, zI v2] [zI s1, zR 0] M = Cb (E d 145 [zR 0, zI s1] M) (fun v h => zrun (zevl d) 105 24 [zR 0, zI v1, zI v2] (v.toList ++ []) h) := by
  exact s_call [zR 0, zI s1] [] f_105_21 rfl c_105_80 rfl rfl (Nat.le_of_ble_eq_true rfl) (by show (zkn SH 0 == zown 145) = true; rw [show zkn SH 0 = 9 from kn_0]; rfl)
theorem q_105_24 {d : Nat} (v1 v2 s0 : Int) (M : ZM) : Q d 105 24 [zR 0, zI v1, zI v2] [zI s0] M = Rt (some (zI s0)) M := by
  exact s_iret f_105_24 t_105
theorem en_105 {d : Nat} (v1 v2 : Int) (M : ZM) : E (d + 1) 105 [zR 0, zI v1, zI v2] M = Q d 105 0 [zR 0, zI v1, zI v2] [] M := e_in (Nat.le_of_ble_eq_true rfl)
-- DungeonBuilder.setLock(II)I
theorem q_106_0 {d : Nat} (v1 v2 : Int) (M : ZM) : Q d 106 0 [zR 0, zI v1, zI v2] [] M = Cb (E d 65 [zR 19, zR 1] M) (fun v h => zrun (zevl d) 106 11 [zR 0, zI v1, zI v2] (v.toList ++ []) h) := by
  refine Eq.trans (s_aloadn f_106_0 rfl) ?_
  refine Eq.trans (s_getR f_106_1 g_106_22 (by decide) kn_0 rf_0_2) ?_
  refine Eq.trans (s_aloadn f_106_4 rfl) ?_
  refine Eq.trans (s_getR f_106_5 g_106_12 (by decide) kn_0 rf_0_0) ?_
  exact s_call [zR 19, zR 1] [] f_106_8 rfl c_106_72 rfl rfl (Nat.le_of_ble_eq_true rfl) (by show (zkn SH 19 == zown 65) = true; rw [show zkn SH 19 = 4 from kn_19]; rfl)
theorem q_106_11 {d : Nat} (v1 v2 : Int) (M : ZM) : Q d 106 11 [zR 0, zI v1, zI v2] [] M = Cb (E d 22 [zR 1, zI v1, zI v2] M) (fun v h => zrun (zevl d) 106 21 [zR 0, zI v1, zI v2] (v.toList ++ [zR 0]) h) := by
  refine Eq.trans (s_aloadn f_106_11 rfl) ?_
  refine Eq.trans (s_aloadn f_106_12 rfl) ?_
  refine Eq.trans (s_getR f_106_13 g_106_12 (by decide) kn_0 rf_0_0) ?_
  refine Eq.trans (s_iloadn f_106_16 rfl) ?_
  refine Eq.trans (s_iloadn f_106_17 rfl) ?_
  exact s_call [zR 1, zI v1, zI v2] [zR 0] f_106_18 rfl c_106_88 rfl rfl (Nat.le_of_ble_eq_true rfl) (by show (zkn SH 1 == zown 22) = true; rw [show zkn SH 1 = 1 from kn_1]; rfl)
theorem q_106_21 {d : Nat} (v1 v2 s1 : Int) (M : ZM) : Q d 106 21 [zR 0, zI v1, zI v2] [zI s1, zR 0] M = Cb (E d 146 [zR 0, zI s1] M) (fun v h => zrun (zevl d) 106 24 [zR 0, zI v1, zI v2] (v.toList ++ []) h) := by
  exact s_call [zR 0, zI s1] [] f_106_21 rfl c_106_91 rfl rfl (Nat.le_of_ble_eq_true rfl) (by show (zkn SH 0 == zown 146) = true; rw [show zkn SH 0 = 9 from kn_0]; rfl)
theorem q_106_24 {d : Nat} (v1 v2 s0 : Int) (M : ZM) : Q d 106 24 [zR 0, zI v1, zI v2] [zI s0] M = Rt (some (zI s0)) M := by
  exact s_iret f_106_24 t_106
theorem en_106 {d : Nat} (v1 v2 : Int) (M : ZM) : E (d + 1) 106 [zR 0, zI v1, zI v2] M = Q d 106 0 [zR 0, zI v1, zI v2] [] M := e_in (Nat.le_of_ble_eq_true rfl)
-- DungeonBuilder.setKey(II)I
theorem q_107_0 {d : Nat} (v1 v2 : Int) (M : ZM) : Q d 107 0 [zR 0, zI v1, zI v2] [] M = Cb (E d 65 [zR 19, zR 1] M) (fun v h => zrun (zevl d) 107 11 [zR 0, zI v1, zI v2] (v.toList ++ []) h) := by
  refine Eq.trans (s_aloadn f_107_0 rfl) ?_
  refine Eq.trans (s_getR f_107_1 g_107_22 (by decide) kn_0 rf_0_2) ?_
  refine Eq.trans (s_aloadn f_107_4 rfl) ?_
  refine Eq.trans (s_getR f_107_5 g_107_12 (by decide) kn_0 rf_0_0) ?_
  exact s_call [zR 19, zR 1] [] f_107_8 rfl c_107_72 rfl rfl (Nat.le_of_ble_eq_true rfl) (by show (zkn SH 19 == zown 65) = true; rw [show zkn SH 19 = 4 from kn_19]; rfl)
theorem q_107_11 {d : Nat} (v1 v2 : Int) (M : ZM) : Q d 107 11 [zR 0, zI v1, zI v2] [] M = Cb (E d 23 [zR 1, zI v1, zI v2] M) (fun v h => zrun (zevl d) 107 21 [zR 0, zI v1, zI v2] (v.toList ++ [zR 0]) h) := by
  refine Eq.trans (s_aloadn f_107_11 rfl) ?_
  refine Eq.trans (s_aloadn f_107_12 rfl) ?_
  refine Eq.trans (s_getR f_107_13 g_107_12 (by decide) kn_0 rf_0_0) ?_
  refine Eq.trans (s_iloadn f_107_16 rfl) ?_
  refine Eq.trans (s_iloadn f_107_17 rfl) ?_
  exact s_call [zR 1, zI v1, zI v2] [zR 0] f_107_18 rfl c_107_94 rfl rfl (Nat.le_of_ble_eq_true rfl) (by show (zkn SH 1 == zown 23) = true; rw [show zkn SH 1 = 1 from kn_1]; rfl)
theorem q_107_21 {d : Nat} (v1 v2 s1 : Int) (M : ZM) : Q d 107 21 [zR 0, zI v1, zI v2] [zI s1, zR 0] M = Cb (E d 146 [zR 0, zI s1] M) (fun v h => zrun (zevl d) 107 24 [zR 0, zI v1, zI v2] (v.toList ++ []) h) := by
  exact s_call [zR 0, zI s1] [] f_107_21 rfl c_107_91 rfl rfl (Nat.le_of_ble_eq_true rfl) (by show (zkn SH 0 == zown 146) = true; rw [show zkn SH 0 = 9 from kn_0]; rfl)
theorem q_107_24 {d : Nat} (v1 v2 s0 : Int) (M : ZM) : Q d 107 24 [zR 0, zI v1, zI v2] [zI s0] M = Rt (some (zI s0)) M := by
  exact s_iret f_107_24 t_107
theorem en_107 {d : Nat} (v1 v2 : Int) (M : ZM) : E (d + 1) 107 [zR 0, zI v1, zI v2] M = Q d 107 0 [zR 0, zI v1, zI v2] [] M := e_in (Nat.le_of_ble_eq_true rfl)
-- DungeonBuilder.setEntrance(I)I
theorem q_108_0 {d : Nat} (v1 : Int) (M : ZM) : Q d 108 0 [zR 0, zI v1] [] M = Cb (E d 65 [zR 19, zR 1] M) (fun v h => zrun (zevl d) 108 11 [zR 0, zI v1] (v.toList ++ []) h) := by
  refine Eq.trans (s_aloadn f_108_0 rfl) ?_
  refine Eq.trans (s_getR f_108_1 g_108_22 (by decide) kn_0 rf_0_2) ?_
  refine Eq.trans (s_aloadn f_108_4 rfl) ?_
  refine Eq.trans (s_getR f_108_5 g_108_12 (by decide) kn_0 rf_0_0) ?_
  exact s_call [zR 19, zR 1] [] f_108_8 rfl c_108_72 rfl rfl (Nat.le_of_ble_eq_true rfl) (by show (zkn SH 19 == zown 65) = true; rw [show zkn SH 19 = 4 from kn_19]; rfl)
theorem q_108_11 {d : Nat} (v1 : Int) (M : ZM) : Q d 108 11 [zR 0, zI v1] [] M = Cb (E d 24 [zR 1, zI v1] M) (fun v h => zrun (zevl d) 108 20 [zR 0, zI v1] (v.toList ++ [zR 0]) h) := by
  refine Eq.trans (s_aloadn f_108_11 rfl) ?_
  refine Eq.trans (s_aloadn f_108_12 rfl) ?_
  refine Eq.trans (s_getR f_108_13 g_108_12 (by decide) kn_0 rf_0_0) ?_
  refine Eq.trans (s_iloadn f_108_16 rfl) ?_
  exact s_call [zR 1, zI v1] [zR 0] f_108_17 rfl c_108_97 rfl rfl (Nat.le_of_ble_eq_true rfl) (by show (zkn SH 1 == zown 24) = true; rw [show zkn SH 1 = 1 from kn_1]; rfl)
theorem q_108_20 {d : Nat} (v1 s1 : Int) (M : ZM) : Q d 108 20 [zR 0, zI v1] [zI s1, zR 0] M = Cb (E d 145 [zR 0, zI s1] M) (fun v h => zrun (zevl d) 108 23 [zR 0, zI v1] (v.toList ++ []) h) := by
  exact s_call [zR 0, zI s1] [] f_108_20 rfl c_108_80 rfl rfl (Nat.le_of_ble_eq_true rfl) (by show (zkn SH 0 == zown 145) = true; rw [show zkn SH 0 = 9 from kn_0]; rfl)
theorem q_108_23 {d : Nat} (v1 s0 : Int) (M : ZM) : Q d 108 23 [zR 0, zI v1] [zI s0] M = Rt (some (zI s0)) M := by
  exact s_iret f_108_23 t_108
theorem en_108 {d : Nat} (v1 : Int) (M : ZM) : E (d + 1) 108 [zR 0, zI v1] M = Q d 108 0 [zR 0, zI v1] [] M := e_in (Nat.le_of_ble_eq_true rfl)
-- DungeonBuilder.removeRoom(I)I
theorem q_109_0 {d : Nat} (v1 : Int) (M : ZM) : Q d 109 0 [zR 0, zI v1] [] M = Cb (E d 65 [zR 19, zR 1] M) (fun v h => zrun (zevl d) 109 11 [zR 0, zI v1] (v.toList ++ []) h) := by
  refine Eq.trans (s_aloadn f_109_0 rfl) ?_
  refine Eq.trans (s_getR f_109_1 g_109_22 (by decide) kn_0 rf_0_2) ?_
  refine Eq.trans (s_aloadn f_109_4 rfl) ?_
  refine Eq.trans (s_getR f_109_5 g_109_12 (by decide) kn_0 rf_0_0) ?_
  exact s_call [zR 19, zR 1] [] f_109_8 rfl c_109_72 rfl rfl (Nat.le_of_ble_eq_true rfl) (by show (zkn SH 19 == zown 65) = true; rw [show zkn SH 19 = 4 from kn_19]; rfl)
theorem q_109_11 {d : Nat} (v1 : Int) (M : ZM) : Q d 109 11 [zR 0, zI v1] [] M = Cb (E d 25 [zR 1, zI v1] M) (fun v h => zrun (zevl d) 109 20 [zR 0, zI v1] (v.toList ++ [zR 0]) h) := by
  refine Eq.trans (s_aloadn f_109_11 rfl) ?_
  refine Eq.trans (s_aloadn f_109_12 rfl) ?_
  refine Eq.trans (s_getR f_109_13 g_109_12 (by decide) kn_0 rf_0_0) ?_
  refine Eq.trans (s_iloadn f_109_16 rfl) ?_
  exact s_call [zR 1, zI v1] [zR 0] f_109_17 rfl c_109_100 rfl rfl (Nat.le_of_ble_eq_true rfl) (by show (zkn SH 1 == zown 25) = true; rw [show zkn SH 1 = 1 from kn_1]; rfl)
theorem q_109_20 {d : Nat} (v1 s1 : Int) (M : ZM) : Q d 109 20 [zR 0, zI v1] [zI s1, zR 0] M = Cb (E d 145 [zR 0, zI s1] M) (fun v h => zrun (zevl d) 109 23 [zR 0, zI v1] (v.toList ++ []) h) := by
  exact s_call [zR 0, zI s1] [] f_109_20 rfl c_109_80 rfl rfl (Nat.le_of_ble_eq_true rfl) (by show (zkn SH 0 == zown 145) = true; rw [show zkn SH 0 = 9 from kn_0]; rfl)
theorem q_109_23 {d : Nat} (v1 s0 : Int) (M : ZM) : Q d 109 23 [zR 0, zI v1] [zI s0] M = Rt (some (zI s0)) M := by
  exact s_iret f_109_23 t_109
theorem en_109 {d : Nat} (v1 : Int) (M : ZM) : E (d + 1) 109 [zR 0, zI v1] M = Q d 109 0 [zR 0, zI v1] [] M := e_in (Nat.le_of_ble_eq_true rfl)
-- DungeonBuilder.removeCorridor(I)I
theorem q_110_0 {d : Nat} (v1 : Int) (M : ZM) : Q d 110 0 [zR 0, zI v1] [] M = Cb (E d 65 [zR 19, zR 1] M) (fun v h => zrun (zevl d) 110 11 [zR 0, zI v1] (v.toList ++ []) h) := by
  refine Eq.trans (s_aloadn f_110_0 rfl) ?_
  refine Eq.trans (s_getR f_110_1 g_110_22 (by decide) kn_0 rf_0_2) ?_
  refine Eq.trans (s_aloadn f_110_4 rfl) ?_
  refine Eq.trans (s_getR f_110_5 g_110_12 (by decide) kn_0 rf_0_0) ?_
  exact s_call [zR 19, zR 1] [] f_110_8 rfl c_110_72 rfl rfl (Nat.le_of_ble_eq_true rfl) (by show (zkn SH 19 == zown 65) = true; rw [show zkn SH 19 = 4 from kn_19]; rfl)
theorem q_110_11 {d : Nat} (v1 : Int) (M : ZM) : Q d 110 11 [zR 0, zI v1] [] M = Cb (E d 28 [zR 1, zI v1] M) (fun v h => zrun (zevl d) 110 20 [zR 0, zI v1] (v.toList ++ [zR 0]) h) := by
  refine Eq.trans (s_aloadn f_110_11 rfl) ?_
  refine Eq.trans (s_aloadn f_110_12 rfl) ?_
  refine Eq.trans (s_getR f_110_13 g_110_12 (by decide) kn_0 rf_0_0) ?_
  refine Eq.trans (s_iloadn f_110_16 rfl) ?_
  exact s_call [zR 1, zI v1] [zR 0] f_110_17 rfl c_110_103 rfl rfl (Nat.le_of_ble_eq_true rfl) (by show (zkn SH 1 == zown 28) = true; rw [show zkn SH 1 = 1 from kn_1]; rfl)
theorem q_110_20 {d : Nat} (v1 s1 : Int) (M : ZM) : Q d 110 20 [zR 0, zI v1] [zI s1, zR 0] M = Cb (E d 145 [zR 0, zI s1] M) (fun v h => zrun (zevl d) 110 23 [zR 0, zI v1] (v.toList ++ []) h) := by
  exact s_call [zR 0, zI s1] [] f_110_20 rfl c_110_80 rfl rfl (Nat.le_of_ble_eq_true rfl) (by show (zkn SH 0 == zown 145) = true; rw [show zkn SH 0 = 9 from kn_0]; rfl)
theorem q_110_23 {d : Nat} (v1 s0 : Int) (M : ZM) : Q d 110 23 [zR 0, zI v1] [zI s0] M = Rt (some (zI s0)) M := by
  exact s_iret f_110_23 t_110
theorem en_110 {d : Nat} (v1 : Int) (M : ZM) : E (d + 1) 110 [zR 0, zI v1] M = Q d 110 0 [zR 0, zI v1] [] M := e_in (Nat.le_of_ble_eq_true rfl)
-- DungeonBuilder.build(II)I
theorem q_111_0 {d : Nat} (v1 v2 : Int) (M : ZM) : Q d 111 0 [zR 0, zI v1, zI v2] [] M = if v2 < 0 then (Rt (some (zI (-102))) M) else (if v2 ≤ 5 then (Cb (E d 65 [zR 19, zR 1] M) (fun v h => zrun (zevl d) 111 23 [zR 0, zI v1, zI v2] (v.toList ++ []) h)) else (Rt (some (zI (-102))) M)) := by
  refine Eq.trans (s_iloadn f_111_0 rfl) ?_
  refine Eq.trans (s_if (P := v2 < 0) 9 f_111_1 (by decide) rfl) (ite_cg (fun h1 => ?_) (fun h1 => ?_))
  · refine Eq.trans (s_bipush f_111_9) ?_
    exact s_iret f_111_11 t_111
  · refine Eq.trans (s_iloadn f_111_4 rfl) ?_
    refine Eq.trans (s_iconst f_111_5) ?_
    refine Eq.trans (s_icmp (P := v2 ≤ 5) 12 f_111_6 (by decide) rfl) (ite_cg (fun h2 => ?_) (fun h2 => ?_))
    · refine Eq.trans (s_aloadn f_111_12 rfl) ?_
      refine Eq.trans (s_getR f_111_13 g_111_22 (by decide) kn_0 rf_0_2) ?_
      refine Eq.trans (s_aloadn f_111_16 rfl) ?_
      refine Eq.trans (s_getR f_111_17 g_111_12 (by decide) kn_0 rf_0_0) ?_
      exact s_call [zR 19, zR 1] [] f_111_20 rfl c_111_72 rfl rfl (Nat.le_of_ble_eq_true rfl) (by show (zkn SH 19 == zown 65) = true; rw [show zkn SH 19 = 4 from kn_19]; rfl)
    · refine Eq.trans (s_bipush f_111_9) ?_
      exact s_iret f_111_11 t_111
theorem q_111_23 {d : Nat} (v1 v2 : Int) (M : ZM) : Q d 111 23 [zR 0, zI v1, zI v2] [] M = Cb (E d 1 [zR 109, zR 1, zI v1, zI v2] M) (fun v h => zrun (zevl d) 111 36 [zR 0, zI v1, zI v2] (v.toList ++ []) h) := by
  refine Eq.trans (s_aloadn f_111_23 rfl) ?_
  refine Eq.trans (s_getR f_111_24 g_111_36 (by decide) kn_0 rf_0_4) ?_
  refine Eq.trans (s_aloadn f_111_27 rfl) ?_
  refine Eq.trans (s_getR f_111_28 g_111_12 (by decide) kn_0 rf_0_0) ?_
  refine Eq.trans (s_iloadn f_111_31 rfl) ?_
  refine Eq.trans (s_iloadn f_111_32 rfl) ?_
  exact s_call [zR 109, zR 1, zI v1, zI v2] [] f_111_33 rfl c_111_106 rfl rfl (Nat.le_of_ble_eq_true rfl) (by show (zkn SH 109 == zown 1) = true; rw [show zkn SH 109 = 0 from kn_109]; rfl)
theorem q_111_36 {d : Nat} (v1 v2 : Int) (M : ZM) : Q d 111 36 [zR 0, zI v1, zI v2] [] M = Cb (E d 145 [zR 0, zI (M 1 8)] M) (fun v h => zrun (zevl d) 111 47 [zR 0, zI v1, zI v2] (v.toList ++ []) h) := by
  refine Eq.trans (s_aloadn f_111_36 rfl) ?_
  refine Eq.trans (s_aloadn f_111_37 rfl) ?_
  refine Eq.trans (s_getR f_111_38 g_111_12 (by decide) kn_0 rf_0_0) ?_
  refine Eq.trans (s_getI f_111_41 g_111_110 (by decide) kn_1) ?_
  exact s_call [zR 0, zI (M 1 8)] [] f_111_44 rfl c_111_80 rfl rfl (Nat.le_of_ble_eq_true rfl) (by show (zkn SH 0 == zown 145) = true; rw [show zkn SH 0 = 9 from kn_0]; rfl)
theorem q_111_47 {d : Nat} (v1 v2 s0 : Int) (M : ZM) : Q d 111 47 [zR 0, zI v1, zI v2] [zI s0] M = Rt (some (zI s0)) M := by
  exact s_iret f_111_47 t_111
theorem en_111 {d : Nat} (v1 v2 : Int) (M : ZM) : E (d + 1) 111 [zR 0, zI v1, zI v2] M = Q d 111 0 [zR 0, zI v1, zI v2] [] M := e_in (Nat.le_of_ble_eq_true rfl)
-- DungeonBuilder.addLoop()I
theorem q_112_0 {d : Nat} (M : ZM) : Q d 112 0 [zR 0] [] M = Cb (E d 65 [zR 19, zR 1] M) (fun v h => zrun (zevl d) 112 11 [zR 0] (v.toList ++ []) h) := by
  refine Eq.trans (s_aloadn f_112_0 rfl) ?_
  refine Eq.trans (s_getR f_112_1 g_112_22 (by decide) kn_0 rf_0_2) ?_
  refine Eq.trans (s_aloadn f_112_4 rfl) ?_
  refine Eq.trans (s_getR f_112_5 g_112_12 (by decide) kn_0 rf_0_0) ?_
  exact s_call [zR 19, zR 1] [] f_112_8 rfl c_112_72 rfl rfl (Nat.le_of_ble_eq_true rfl) (by show (zkn SH 19 == zown 65) = true; rw [show zkn SH 19 = 4 from kn_19]; rfl)
theorem q_112_11 {d : Nat} (M : ZM) : Q d 112 11 [zR 0] [] M = Cb (E d 21 [zR 1] M) (fun v h => zrun (zevl d) 112 19 [zR 0] (v.toList ++ [zR 0]) h) := by
  refine Eq.trans (s_aloadn f_112_11 rfl) ?_
  refine Eq.trans (s_aloadn f_112_12 rfl) ?_
  refine Eq.trans (s_getR f_112_13 g_112_12 (by decide) kn_0 rf_0_0) ?_
  exact s_call [zR 1] [zR 0] f_112_16 rfl c_112_114 rfl rfl (Nat.le_of_ble_eq_true rfl) (by show (zkn SH 1 == zown 21) = true; rw [show zkn SH 1 = 1 from kn_1]; rfl)
theorem q_112_19 {d : Nat} (s1 : Int) (M : ZM) : Q d 112 19 [zR 0] [zI s1, zR 0] M = Cb (E d 145 [zR 0, zI s1] M) (fun v h => zrun (zevl d) 112 22 [zR 0] (v.toList ++ []) h) := by
  exact s_call [zR 0, zI s1] [] f_112_19 rfl c_112_80 rfl rfl (Nat.le_of_ble_eq_true rfl) (by show (zkn SH 0 == zown 145) = true; rw [show zkn SH 0 = 9 from kn_0]; rfl)
theorem q_112_22 {d : Nat} (s0 : Int) (M : ZM) : Q d 112 22 [zR 0] [zI s0] M = Rt (some (zI s0)) M := by
  exact s_iret f_112_22 t_112
theorem en_112 {d : Nat} (M : ZM) : E (d + 1) 112 [zR 0] M = Q d 112 0 [zR 0] [] M := e_in (Nat.le_of_ble_eq_true rfl)
-- DungeonBuilder.placeLock()I
theorem q_113_0 {d : Nat} (M : ZM) : Q d 113 0 [zR 0] [] M = Cb (E d 65 [zR 19, zR 1] M) (fun v h => zrun (zevl d) 113 11 [zR 0] (v.toList ++ []) h) := by
  refine Eq.trans (s_aloadn f_113_0 rfl) ?_
  refine Eq.trans (s_getR f_113_1 g_113_22 (by decide) kn_0 rf_0_2) ?_
  refine Eq.trans (s_aloadn f_113_4 rfl) ?_
  refine Eq.trans (s_getR f_113_5 g_113_12 (by decide) kn_0 rf_0_0) ?_
  exact s_call [zR 19, zR 1] [] f_113_8 rfl c_113_72 rfl rfl (Nat.le_of_ble_eq_true rfl) (by show (zkn SH 19 == zown 65) = true; rw [show zkn SH 19 = 4 from kn_19]; rfl)
theorem q_113_11 {d : Nat} (M : ZM) : Q d 113 11 [zR 0] [] M = Cb (E d 71 [zR 118, zR 1] M) (fun v h => zrun (zevl d) 113 23 [zR 0] (v.toList ++ [zR 0]) h) := by
  refine Eq.trans (s_aloadn f_113_11 rfl) ?_
  refine Eq.trans (s_aloadn f_113_12 rfl) ?_
  refine Eq.trans (s_getR f_113_13 g_113_43 (by decide) kn_0 rf_0_5) ?_
  refine Eq.trans (s_aloadn f_113_16 rfl) ?_
  refine Eq.trans (s_getR f_113_17 g_113_12 (by decide) kn_0 rf_0_0) ?_
  exact s_call [zR 118, zR 1] [zR 0] f_113_20 rfl c_113_118 rfl rfl (Nat.le_of_ble_eq_true rfl) (by show (zkn SH 118 == zown 71) = true; rw [show zkn SH 118 = 5 from kn_118]; rfl)
theorem q_113_23 {d : Nat} (s1 : Int) (M : ZM) : Q d 113 23 [zR 0] [zI s1, zR 0] M = Cb (E d 145 [zR 0, zI s1] M) (fun v h => zrun (zevl d) 113 26 [zR 0] (v.toList ++ []) h) := by
  exact s_call [zR 0, zI s1] [] f_113_23 rfl c_113_80 rfl rfl (Nat.le_of_ble_eq_true rfl) (by show (zkn SH 0 == zown 145) = true; rw [show zkn SH 0 = 9 from kn_0]; rfl)
theorem q_113_26 {d : Nat} (s0 : Int) (M : ZM) : Q d 113 26 [zR 0] [zI s0] M = Rt (some (zI s0)) M := by
  exact s_iret f_113_26 t_113
theorem en_113 {d : Nat} (M : ZM) : E (d + 1) 113 [zR 0] M = Q d 113 0 [zR 0] [] M := e_in (Nat.le_of_ble_eq_true rfl)
-- DungeonBuilder.setCurve(I)I
theorem q_114_0 {d : Nat} (v1 : Int) (M : ZM) : Q d 114 0 [zR 0, zI v1, zU] [] M = if v1 < 0 then (Rt (some (zI (-102))) M) else (if v1 ≤ 2 then (Cb (E d 65 [zR 19, zR 1] M) (fun v h => zrun (zevl d) 114 23 [zR 0, zI v1, zU] (v.toList ++ []) h)) else (Rt (some (zI (-102))) M)) := by
  refine Eq.trans (s_iloadn f_114_0 rfl) ?_
  refine Eq.trans (s_if (P := v1 < 0) 9 f_114_1 (by decide) rfl) (ite_cg (fun h1 => ?_) (fun h1 => ?_))
  · refine Eq.trans (s_bipush f_114_9) ?_
    exact s_iret f_114_11 t_114
  · refine Eq.trans (s_iloadn f_114_4 rfl) ?_
    refine Eq.trans (s_iconst f_114_5) ?_
    refine Eq.trans (s_icmp (P := v1 ≤ 2) 12 f_114_6 (by decide) rfl) (ite_cg (fun h2 => ?_) (fun h2 => ?_))
    · refine Eq.trans (s_aloadn f_114_12 rfl) ?_
      refine Eq.trans (s_getR f_114_13 g_114_22 (by decide) kn_0 rf_0_2) ?_
      refine Eq.trans (s_aloadn f_114_16 rfl) ?_
      refine Eq.trans (s_getR f_114_17 g_114_12 (by decide) kn_0 rf_0_0) ?_
      exact s_call [zR 19, zR 1] [] f_114_20 rfl c_114_72 rfl rfl (Nat.le_of_ble_eq_true rfl) (by show (zkn SH 19 == zown 65) = true; rw [show zkn SH 19 = 4 from kn_19]; rfl)
    · refine Eq.trans (s_bipush f_114_9) ?_
      exact s_iret f_114_11 t_114
theorem q_114_23 {d : Nat} (v1 : Int) (M : ZM) : Q d 114 23 [zR 0, zI v1, zU] [] M = Cb (E d 145 [zR 0, zI (M 1 11)] (zwr M 1 11 v1)) (fun v h => zrun (zevl d) 114 44 [zR 0, zI v1, zI (M 1 11)] (v.toList ++ []) h) := by
  refine Eq.trans (s_aloadn f_114_23 rfl) ?_
  refine Eq.trans (s_getR f_114_24 g_114_12 (by decide) kn_0 rf_0_0) ?_
  refine Eq.trans (s_getI f_114_27 g_114_122 (by decide) kn_1) ?_
  refine Eq.trans (s_istoren f_114_30 rfl) ?_
  refine Eq.trans (s_aloadn f_114_31 rfl) ?_
  refine Eq.trans (s_getR f_114_32 g_114_12 (by decide) kn_0 rf_0_0) ?_
  refine Eq.trans (s_iloadn f_114_35 rfl) ?_
  refine Eq.trans (s_putI f_114_36 g_114_122 (by decide) kn_1) ?_
  refine Eq.trans (s_aloadn f_114_39 rfl) ?_
  refine Eq.trans (s_iloadn f_114_40 rfl) ?_
  exact s_call [zR 0, zI (M 1 11)] [] f_114_41 rfl c_114_80 rfl rfl (Nat.le_of_ble_eq_true rfl) (by show (zkn SH 0 == zown 145) = true; rw [show zkn SH 0 = 9 from kn_0]; rfl)
theorem q_114_44 {d : Nat} (v1 v2 s0 : Int) (M : ZM) : Q d 114 44 [zR 0, zI v1, zI v2] [zI s0] M = Rt (some (zI s0)) M := by
  exact s_iret f_114_44 t_114
theorem en_114 {d : Nat} (v1 : Int) (M : ZM) : E (d + 1) 114 [zR 0, zI v1] M = Q d 114 0 [zR 0, zI v1, zU] [] M := e_in (Nat.le_of_ble_eq_true rfl)
-- DungeonBuilder.append(I)I
theorem q_115_0 {d : Nat} (v1 : Int) (M : ZM) : Q d 115 0 [zR 0, zI v1] [] M = Cb (E d 85 [zR 84, zI v1] M) (fun v h => zrun (zevl d) 115 8 [zR 0, zI v1] (v.toList ++ []) h) := by
  refine Eq.trans (s_aloadn f_115_0 rfl) ?_
  refine Eq.trans (s_getR f_115_1 g_115_29 (by decide) kn_0 rf_0_3) ?_
  refine Eq.trans (s_iloadn f_115_4 rfl) ?_
  exact s_call [zR 84, zI v1] [] f_115_5 rfl c_115_125 rfl rfl (Nat.le_of_ble_eq_true rfl) (by show (zkn SH 84 == zown 85) = true; rw [show zkn SH 84 = 7 from kn_84]; rfl)
theorem q_115_8 {d : Nat} (v1 s0 : Int) (M : ZM) : Q d 115 8 [zR 0, zI v1] [zI s0] M = Rt (some (zI s0)) M := by
  exact s_iret f_115_8 t_115
theorem en_115 {d : Nat} (v1 : Int) (M : ZM) : E (d + 1) 115 [zR 0, zI v1] M = Q d 115 0 [zR 0, zI v1] [] M := e_in (Nat.le_of_ble_eq_true rfl)
-- DungeonBuilder.read()I
theorem q_116_0 {d : Nat} (M : ZM) : Q d 116 0 [zR 0] [] M = Cb (E d 87 [zR 84] M) (fun v h => zrun (zevl d) 116 7 [zR 0] (v.toList ++ []) h) := by
  refine Eq.trans (s_aloadn f_116_0 rfl) ?_
  refine Eq.trans (s_getR f_116_1 g_116_29 (by decide) kn_0 rf_0_3) ?_
  exact s_call [zR 84] [] f_116_4 rfl c_116_128 rfl rfl (Nat.le_of_ble_eq_true rfl) (by show (zkn SH 84 == zown 87) = true; rw [show zkn SH 84 = 7 from kn_84]; rfl)
theorem q_116_7 {d : Nat} (s0 : Int) (M : ZM) : Q d 116 7 [zR 0] [zI s0] M = if s0 ≠ 0 then (Cb (E d 65 [zR 19, zR 1] M) (fun v h => zrun (zevl d) 116 24 [zR 0] (v.toList ++ []) h)) else (Rt (some (zI (-102))) M) := by
  refine Eq.trans (s_if (P := s0 ≠ 0) 13 f_116_7 (by decide) rfl) (ite_cg (fun h1 => ?_) (fun h1 => ?_))
  · refine Eq.trans (s_aloadn f_116_13 rfl) ?_
    refine Eq.trans (s_getR f_116_14 g_116_22 (by decide) kn_0 rf_0_2) ?_
    refine Eq.trans (s_aloadn f_116_17 rfl) ?_
    refine Eq.trans (s_getR f_116_18 g_116_12 (by decide) kn_0 rf_0_0) ?_
    exact s_call [zR 19, zR 1] [] f_116_21 rfl c_116_72 rfl rfl (Nat.le_of_ble_eq_true rfl) (by show (zkn SH 19 == zown 65) = true; rw [show zkn SH 19 = 4 from kn_19]; rfl)
  · refine Eq.trans (s_bipush f_116_10) ?_
    exact s_iret f_116_12 t_116
theorem q_116_24 {d : Nat} (M : ZM) : Q d 116 24 [zR 0] [] M = Cb (E d 95 [zR 84, zR 1] M) (fun v h => zrun (zevl d) 116 35 [zR 0] (v.toList ++ []) h) := by
  refine Eq.trans (s_aloadn f_116_24 rfl) ?_
  refine Eq.trans (s_getR f_116_25 g_116_29 (by decide) kn_0 rf_0_3) ?_
  refine Eq.trans (s_aloadn f_116_28 rfl) ?_
  refine Eq.trans (s_getR f_116_29 g_116_12 (by decide) kn_0 rf_0_0) ?_
  exact s_call [zR 84, zR 1] [] f_116_32 rfl c_116_132 rfl rfl (Nat.le_of_ble_eq_true rfl) (by show (zkn SH 84 == zown 95) = true; rw [show zkn SH 84 = 7 from kn_84]; rfl)
theorem q_116_35 {d : Nat} (s0 : Int) (M : ZM) : Q d 116 35 [zR 0] [zI s0] M = if s0 ≠ 0 then (Cb (E d 145 [zR 0, zI (M 84 6)] M) (fun v h => zrun (zevl d) 116 63 [zR 0] (v.toList ++ []) h)) else (Cb (E d 67 [zR 19, zR 1] M) (fun v h => zrun (zevl d) 116 49 [zR 0] (v.toList ++ []) h)) := by
  refine Eq.trans (s_if (P := s0 ≠ 0) 52 f_116_35 (by decide) rfl) (ite_cg (fun h1 => ?_) (fun h1 => ?_))
  · refine Eq.trans (s_aloadn f_116_52 rfl) ?_
    refine Eq.trans (s_aloadn f_116_53 rfl) ?_
    refine Eq.trans (s_getR f_116_54 g_116_29 (by decide) kn_0 rf_0_3) ?_
    refine Eq.trans (s_getI f_116_57 g_116_139 (by decide) kn_84) ?_
    exact s_call [zR 0, zI (M 84 6)] [] f_116_60 rfl c_116_80 rfl rfl (Nat.le_of_ble_eq_true rfl) (by show (zkn SH 0 == zown 145) = true; rw [show zkn SH 0 = 9 from kn_0]; rfl)
  · refine Eq.trans (s_aloadn f_116_38 rfl) ?_
    refine Eq.trans (s_getR f_116_39 g_116_22 (by decide) kn_0 rf_0_2) ?_
    refine Eq.trans (s_aloadn f_116_42 rfl) ?_
    refine Eq.trans (s_getR f_116_43 g_116_12 (by decide) kn_0 rf_0_0) ?_
    exact s_call [zR 19, zR 1] [] f_116_46 rfl c_116_136 rfl rfl (Nat.le_of_ble_eq_true rfl) (by show (zkn SH 19 == zown 67) = true; rw [show zkn SH 19 = 4 from kn_19]; rfl)
theorem q_116_49 {d : Nat} (M : ZM) : Q d 116 49 [zR 0] [] M = Rt (some (zI (-105))) M := by
  refine Eq.trans (s_bipush f_116_49) ?_
  exact s_iret f_116_51 t_116
theorem q_116_63 {d : Nat} (s0 : Int) (M : ZM) : Q d 116 63 [zR 0] [zI s0] M = Rt (some (zI s0)) M := by
  exact s_iret f_116_63 t_116
theorem en_116 {d : Nat} (M : ZM) : E (d + 1) 116 [zR 0] M = Q d 116 0 [zR 0] [] M := e_in (Nat.le_of_ble_eq_true rfl)
-- DungeonBuilder.faultPosition()I
theorem q_117_0 {d : Nat} (M : ZM) : Q d 117 0 [zR 0] [] M = Rt (some (zI (M 84 7))) M := by
  refine Eq.trans (s_aloadn f_117_0 rfl) ?_
  refine Eq.trans (s_getR f_117_1 g_117_29 (by decide) kn_0 rf_0_3) ?_
  refine Eq.trans (s_getI f_117_4 g_117_142 (by decide) kn_84) ?_
  exact s_iret f_117_7 t_117
theorem en_117 {d : Nat} (M : ZM) : E (d + 1) 117 [zR 0] M = Q d 117 0 [zR 0] [] M := e_in (Nat.le_of_ble_eq_true rfl)
-- DungeonBuilder.undo()I
theorem q_118_0 {d : Nat} (M : ZM) : Q d 118 0 [zR 0] [] M = Cb (E d 68 [zR 19, zR 1] M) (fun v h => zrun (zevl d) 118 11 [zR 0] (v.toList ++ []) h) := by
  refine Eq.trans (s_aloadn f_118_0 rfl) ?_
  refine Eq.trans (s_getR f_118_1 g_118_22 (by decide) kn_0 rf_0_2) ?_
  refine Eq.trans (s_aloadn f_118_4 rfl) ?_
  refine Eq.trans (s_getR f_118_5 g_118_12 (by decide) kn_0 rf_0_0) ?_
  exact s_call [zR 19, zR 1] [] f_118_8 rfl c_118_145 rfl rfl (Nat.le_of_ble_eq_true rfl) (by show (zkn SH 19 == zown 68) = true; rw [show zkn SH 19 = 4 from kn_19]; rfl)
theorem q_118_11 {d : Nat} (s0 : Int) (M : ZM) : Q d 118 11 [zR 0] [zI s0] M = Rt (some (zI s0)) M := by
  exact s_iret f_118_11 t_118
theorem en_118 {d : Nat} (M : ZM) : E (d + 1) 118 [zR 0] M = Q d 118 0 [zR 0] [] M := e_in (Nat.le_of_ble_eq_true rfl)
-- DungeonBuilder.count(I)I
theorem q_119_0 {d : Nat} (v1 : Int) (M : ZM) : Q d 119 0 [zR 0, zI v1] [] M = if v1 = 0 then (Rt (some (zI (M 1 8))) M) else (if v1 = 1 then (Rt (some (zI (M 1 9))) M) else (if v1 = 2 then (Cb (E d 37 [zR 1] M) (fun v h => zrun (zevl d) 119 79 [zR 0, zI v1] (v.toList ++ []) h)) else (if v1 = 3 then (Cb (E d 38 [zR 1] M) (fun v h => zrun (zevl d) 119 87 [zR 0, zI v1] (v.toList ++ []) h)) else (if v1 = 4 then (Cb (E d 40 [zR 1] M) (fun v h => zrun (zevl d) 119 95 [zR 0, zI v1] (v.toList ++ []) h)) else (if v1 = 5 then (Cb (E d 52 [zR 132, zR 1] M) (fun v h => zrun (zevl d) 119 107 [zR 0, zI v1] (v.toList ++ []) h)) else (if v1 = 6 then (Cb (E d 41 [zR 1] M) (fun v h => zrun (zevl d) 119 122 [zR 0, zI v1] (v.toList ++ []) h)) else (if v1 = 7 then (Cb (E d 80 [zR 1, zI (-1)] M) (fun v h => zrun (zevl d) 119 131 [zR 0, zI v1] (v.toList ++ []) h)) else (if v1 = 8 then (Cb (E d 81 [zR 1] M) (fun v h => zrun (zevl d) 119 139 [zR 0, zI v1] (v.toList ++ []) h)) else (if v1 = 9 then (Rt (some (zI (M 84 5))) M) else (Rt (some (zI (-102))) M)))))))))) := by
  refine Eq.trans (s_iloadn f_119_0 rfl) ?_
  refine Eq.trans (w_119_1) ?_
  refine ite_cg (fun h2 => ?_) (fun h2 => ?_)
  · refine Eq.trans (s_aloadn f_119_56 rfl) ?_
    refine Eq.trans (s_getR f_119_57 g_119_12 (by decide) kn_0 rf_0_0) ?_
    refine Eq.trans (s_getI f_119_60 g_119_110 (by decide) kn_1) ?_
    exact s_iret f_119_63 t_119
  refine ite_cg (fun h3 => ?_) (fun h3 => ?_)
  · refine Eq.trans (s_aloadn f_119_64 rfl) ?_
    refine Eq.trans (s_getR f_119_65 g_119_12 (by decide) kn_0 rf_0_0) ?_
    refine Eq.trans (s_getI f_119_68 g_119_148 (by decide) kn_1) ?_
    exact s_iret f_119_71 t_119
  refine ite_cg (fun h4 => ?_) (fun h4 => ?_)
  · refine Eq.trans (s_aloadn f_119_72 rfl) ?_
    refine Eq.trans (s_getR f_119_73 g_119_12 (by decide) kn_0 rf_0_0) ?_
    exact s_call [zR 1] [] f_119_76 rfl c_119_151 rfl rfl (Nat.le_of_ble_eq_true rfl) (by show (zkn SH 1 == zown 37) = true; rw [show zkn SH 1 = 1 from kn_1]; rfl)
  refine ite_cg (fun h5 => ?_) (fun h5 => ?_)
  · refine Eq.trans (s_aloadn f_119_80 rfl) ?_
    refine Eq.trans (s_getR f_119_81 g_119_12 (by decide) kn_0 rf_0_0) ?_
    exact s_call [zR 1] [] f_119_84 rfl c_119_154 rfl rfl (Nat.le_of_ble_eq_true rfl) (by show (zkn SH 1 == zown 38) = true; rw [show zkn SH 1 = 1 from kn_1]; rfl)
  refine ite_cg (fun h6 => ?_) (fun h6 => ?_)
  · refine Eq.trans (s_aloadn f_119_88 rfl) ?_
    refine Eq.trans (s_getR f_119_89 g_119_12 (by decide) kn_0 rf_0_0) ?_
    exact s_call [zR 1] [] f_119_92 rfl c_119_157 rfl rfl (Nat.le_of_ble_eq_true rfl) (by show (zkn SH 1 == zown 40) = true; rw [show zkn SH 1 = 1 from kn_1]; rfl)
  refine ite_cg (fun h7 => ?_) (fun h7 => ?_)
  · refine Eq.trans (s_aloadn f_119_96 rfl) ?_
    refine Eq.trans (s_getR f_119_97 g_119_64 (by decide) kn_0 rf_0_8) ?_
    refine Eq.trans (s_aloadn f_119_100 rfl) ?_
    refine Eq.trans (s_getR f_119_101 g_119_12 (by decide) kn_0 rf_0_0) ?_
    exact s_call [zR 132, zR 1] [] f_119_104 rfl c_119_160 rfl rfl (Nat.le_of_ble_eq_true rfl) (by show (zkn SH 132 == zown 52) = true; rw [show zkn SH 132 = 3 from kn_132]; rfl)
  refine ite_cg (fun h8 => ?_) (fun h8 => ?_)
  · refine Eq.trans (s_aloadn f_119_115 rfl) ?_
    refine Eq.trans (s_getR f_119_116 g_119_12 (by decide) kn_0 rf_0_0) ?_
    exact s_call [zR 1] [] f_119_119 rfl c_119_166 rfl rfl (Nat.le_of_ble_eq_true rfl) (by show (zkn SH 1 == zown 41) = true; rw [show zkn SH 1 = 1 from kn_1]; rfl)
  refine ite_cg (fun h9 => ?_) (fun h9 => ?_)
  · refine Eq.trans (s_aloadn f_119_123 rfl) ?_
    refine Eq.trans (s_getR f_119_124 g_119_12 (by decide) kn_0 rf_0_0) ?_
    refine Eq.trans (s_iconst f_119_127) ?_
    exact s_call [zR 1, zI (-1)] [] f_119_128 rfl c_119_169 rfl rfl (Nat.le_of_ble_eq_true rfl) rfl
  refine ite_cg (fun h10 => ?_) (fun h10 => ?_)
  · refine Eq.trans (s_aloadn f_119_132 rfl) ?_
    refine Eq.trans (s_getR f_119_133 g_119_12 (by decide) kn_0 rf_0_0) ?_
    exact s_call [zR 1] [] f_119_136 rfl c_119_175 rfl rfl (Nat.le_of_ble_eq_true rfl) rfl
  refine ite_cg (fun h11 => ?_) (fun h11 => ?_)
  · refine Eq.trans (s_aloadn f_119_140 rfl) ?_
    refine Eq.trans (s_getR f_119_141 g_119_29 (by decide) kn_0 rf_0_3) ?_
    refine Eq.trans (s_getI f_119_144 g_119_178 (by decide) kn_84) ?_
    exact s_iret f_119_147 t_119
  refine Eq.trans (s_bipush f_119_148) ?_
  exact s_iret f_119_150 t_119
theorem q_119_79 {d : Nat} (v1 s0 : Int) (M : ZM) : Q d 119 79 [zR 0, zI v1] [zI s0] M = Rt (some (zI s0)) M := by
  exact s_iret f_119_79 t_119
theorem q_119_87 {d : Nat} (v1 s0 : Int) (M : ZM) : Q d 119 87 [zR 0, zI v1] [zI s0] M = Rt (some (zI s0)) M := by
  exact s_iret f_119_87 t_119
theorem q_119_95 {d : Nat} (v1 s0 : Int) (M : ZM) : Q d 119 95 [zR 0, zI v1] [zI s0] M = Rt (some (zI s0)) M := by
  exact s_iret f_119_95 t_119
theorem q_119_107 {d : Nat} (v1 : Int) (M : ZM) : Q d 119 107 [zR 0, zI v1] [] M = Cb (E d 57 [zR 132] M) (fun v h => zrun (zevl d) 119 114 [zR 0, zI v1] (v.toList ++ []) h) := by
  refine Eq.trans (s_aloadn f_119_107 rfl) ?_
  refine Eq.trans (s_getR f_119_108 g_119_64 (by decide) kn_0 rf_0_8) ?_
  exact s_call [zR 132] [] f_119_111 rfl c_119_163 rfl rfl (Nat.le_of_ble_eq_true rfl) (by show (zkn SH 132 == zown 57) = true; rw [show zkn SH 132 = 3 from kn_132]; rfl)
theorem q_119_114 {d : Nat} (v1 s0 : Int) (M : ZM) : Q d 119 114 [zR 0, zI v1] [zI s0] M = Rt (some (zI s0)) M := by
  exact s_iret f_119_114 t_119
theorem q_119_122 {d : Nat} (v1 s0 : Int) (M : ZM) : Q d 119 122 [zR 0, zI v1] [zI s0] M = Rt (some (zI s0)) M := by
  exact s_iret f_119_122 t_119
theorem q_119_131 {d : Nat} (v1 s0 : Int) (M : ZM) : Q d 119 131 [zR 0, zI v1] [zI s0] M = Rt (some (zI s0)) M := by
  exact s_iret f_119_131 t_119
theorem q_119_139 {d : Nat} (v1 s0 : Int) (M : ZM) : Q d 119 139 [zR 0, zI v1] [zI s0] M = Rt (some (zI s0)) M := by
  exact s_iret f_119_139 t_119
theorem en_119 {d : Nat} (v1 : Int) (M : ZM) : E (d + 1) 119 [zR 0, zI v1] M = Q d 119 0 [zR 0, zI v1] [] M := e_in (Nat.le_of_ble_eq_true rfl)
-- DungeonBuilder.room(II)I
theorem q_120_0 {d : Nat} (v1 v2 : Int) (M : ZM) : Q d 120 0 [zR 0, zI v1, zI v2] [] M = Cb (E d 15 [zR 1, zI v1] M) (fun v h => zrun (zevl d) 120 8 [zR 0, zI v1, zI v2] (v.toList ++ []) h) := by
  refine Eq.trans (s_aloadn f_120_0 rfl) ?_
  refine Eq.trans (s_getR f_120_1 g_120_12 (by decide) kn_0 rf_0_0) ?_
  refine Eq.trans (s_iloadn f_120_4 rfl) ?_
  exact s_call [zR 1, zI v1] [] f_120_5 rfl c_120_181 rfl rfl (Nat.le_of_ble_eq_true rfl) (by show (zkn SH 1 == zown 15) = true; rw [show zkn SH 1 = 1 from kn_1]; rfl)
theorem q_120_8 {d : Nat} (v1 v2 s0 : Int) (M : ZM) : Q d 120 8 [zR 0, zI v1, zI v2] [zI s0] M = if s0 ≠ 0 then (if v2 = 0 then (if 0 ≤ v1 ∧ v1 < 12 then Rt (some (zI (M 2 v1))) M else none) else (if v2 = 1 then (if 0 ≤ v1 ∧ v1 < 12 then Rt (some (zI (M 3 v1))) M else none) else (if v2 = 2 then (if 0 ≤ v1 ∧ v1 < 12 then Rt (some (zI (M 4 v1))) M else none) else (if v2 = 3 then (if 0 ≤ v1 ∧ v1 < 12 then Rt (some (zI (M 5 v1))) M else none) else (if v2 = 4 then (if 0 ≤ v1 ∧ v1 < 12 then Cb (E d 147 [zI (M 6 v1)] M) (fun v h => zrun (zevl d) 120 112 [zR 0, zI v1, zI v2] (v.toList ++ []) h) else none) else (if v2 = 5 then (Cb (E d 31 [zR 1, zI v1] M) (fun v h => zrun (zevl d) 120 121 [zR 0, zI v1, zI v2] (v.toList ++ []) h)) else (if v2 = 6 then (Cb (E d 32 [zR 1, zI v1] M) (fun v h => zrun (zevl d) 120 130 [zR 0, zI v1, zI v2] (v.toList ++ []) h)) else (if v2 = 7 then (Cb (E d 33 [zR 1, zI v1] M) (fun v h => zrun (zevl d) 120 139 [zR 0, zI v1, zI v2] (v.toList ++ []) h)) else (Rt (some (zI (-102))) M))))))))) else (Rt (some (zI (-101))) M) := by
  refine Eq.trans (s_if (P := s0 ≠ 0) 14 f_120_8 (by decide) rfl) (ite_cg (fun h1 => ?_) (fun h1 => ?_))
  · refine Eq.trans (s_iloadn f_120_14 rfl) ?_
    refine Eq.trans (w_120_15) ?_
    refine ite_cg (fun h3 => ?_) (fun h3 => ?_)
    · refine Eq.trans (s_aloadn f_120_60 rfl) ?_
      refine Eq.trans (s_getR f_120_61 g_120_12 (by decide) kn_0 rf_0_0) ?_
      refine Eq.trans (s_getR f_120_64 g_120_185 (by decide) kn_1 rf_1_0) ?_
      refine Eq.trans (s_iloadn f_120_67 rfl) ?_
      refine Eq.trans (s_iald f_120_68 kn_2 ln_2) (gd_cg fun h4 => ?_)
      exact s_iret f_120_69 t_120
    refine ite_cg (fun h5 => ?_) (fun h5 => ?_)
    · refine Eq.trans (s_aloadn f_120_70 rfl) ?_
      refine Eq.trans (s_getR f_120_71 g_120_12 (by decide) kn_0 rf_0_0) ?_
      refine Eq.trans (s_getR f_120_74 g_120_189 (by decide) kn_1 rf_1_1) ?_
      refine Eq.trans (s_iloadn f_120_77 rfl) ?_
      refine Eq.trans (s_iald f_120_78 kn_3 ln_3) (gd_cg fun h6 => ?_)
      exact s_iret f_120_79 t_120
    refine ite_cg (fun h7 => ?_) (fun h7 => ?_)
    · refine Eq.trans (s_aloadn f_120_80 rfl) ?_
      refine Eq.trans (s_getR f_120_81 g_120_12 (by decide) kn_0 rf_0_0) ?_
      refine Eq.trans (s_getR f_120_84 g_120_192 (by decide) kn_1 rf_1_2) ?_
      refine Eq.trans (s_iloadn f_120_87 rfl) ?_
      refine Eq.trans (s_iald f_120_88 kn_4 ln_4) (gd_cg fun h8 => ?_)
      exact s_iret f_120_89 t_120
    refine ite_cg (fun h9 => ?_) (fun h9 => ?_)
    · refine Eq.trans (s_aloadn f_120_90 rfl) ?_
      refine Eq.trans (s_getR f_120_91 g_120_12 (by decide) kn_0 rf_0_0) ?_
      refine Eq.trans (s_getR f_120_94 g_120_195 (by decide) kn_1 rf_1_3) ?_
      refine Eq.trans (s_iloadn f_120_97 rfl) ?_
      refine Eq.trans (s_iald f_120_98 kn_5 ln_5) (gd_cg fun h10 => ?_)
      exact s_iret f_120_99 t_120
    refine ite_cg (fun h11 => ?_) (fun h11 => ?_)
    · refine Eq.trans (s_aloadn f_120_100 rfl) ?_
      refine Eq.trans (s_getR f_120_101 g_120_12 (by decide) kn_0 rf_0_0) ?_
      refine Eq.trans (s_getR f_120_104 g_120_198 (by decide) kn_1 rf_1_4) ?_
      refine Eq.trans (s_iloadn f_120_107 rfl) ?_
      refine Eq.trans (s_iald f_120_108 kn_6 ln_6) (gd_cg fun h12 => ?_)
      exact s_call [zI (M 6 v1)] [] f_120_109 rfl c_120_201 rfl rfl (Nat.le_of_ble_eq_true rfl) rfl
    refine ite_cg (fun h13 => ?_) (fun h13 => ?_)
    · refine Eq.trans (s_aloadn f_120_113 rfl) ?_
      refine Eq.trans (s_getR f_120_114 g_120_12 (by decide) kn_0 rf_0_0) ?_
      refine Eq.trans (s_iloadn f_120_117 rfl) ?_
      exact s_call [zR 1, zI v1] [] f_120_118 rfl c_120_204 rfl rfl (Nat.le_of_ble_eq_true rfl) (by show (zkn SH 1 == zown 31) = true; rw [show zkn SH 1 = 1 from kn_1]; rfl)
    refine ite_cg (fun h14 => ?_) (fun h14 => ?_)
    · refine Eq.trans (s_aloadn f_120_122 rfl) ?_
      refine Eq.trans (s_getR f_120_123 g_120_12 (by decide) kn_0 rf_0_0) ?_
      refine Eq.trans (s_iloadn f_120_126 rfl) ?_
      exact s_call [zR 1, zI v1] [] f_120_127 rfl c_120_207 rfl rfl (Nat.le_of_ble_eq_true rfl) (by show (zkn SH 1 == zown 32) = true; rw [show zkn SH 1 = 1 from kn_1]; rfl)
    refine ite_cg (fun h15 => ?_) (fun h15 => ?_)
    · refine Eq.trans (s_aloadn f_120_131 rfl) ?_
      refine Eq.trans (s_getR f_120_132 g_120_12 (by decide) kn_0 rf_0_0) ?_
      refine Eq.trans (s_iloadn f_120_135 rfl) ?_
      exact s_call [zR 1, zI v1] [] f_120_136 rfl c_120_210 rfl rfl (Nat.le_of_ble_eq_true rfl) (by show (zkn SH 1 == zown 33) = true; rw [show zkn SH 1 = 1 from kn_1]; rfl)
    refine Eq.trans (s_bipush f_120_140) ?_
    exact s_iret f_120_142 t_120
  · refine Eq.trans (s_bipush f_120_11) ?_
    exact s_iret f_120_13 t_120
theorem q_120_112 {d : Nat} (v1 v2 s0 : Int) (M : ZM) : Q d 120 112 [zR 0, zI v1, zI v2] [zI s0] M = Rt (some (zI s0)) M := by
  exact s_iret f_120_112 t_120
theorem q_120_121 {d : Nat} (v1 v2 s0 : Int) (M : ZM) : Q d 120 121 [zR 0, zI v1, zI v2] [zI s0] M = Rt (some (zI s0)) M := by
  exact s_iret f_120_121 t_120
theorem q_120_130 {d : Nat} (v1 v2 s0 : Int) (M : ZM) : Q d 120 130 [zR 0, zI v1, zI v2] [zI s0] M = Rt (some (zI s0)) M := by
  exact s_iret f_120_130 t_120
theorem q_120_139 {d : Nat} (v1 v2 s0 : Int) (M : ZM) : Q d 120 139 [zR 0, zI v1, zI v2] [zI s0] M = Rt (some (zI s0)) M := by
  exact s_iret f_120_139 t_120
theorem en_120 {d : Nat} (v1 v2 : Int) (M : ZM) : E (d + 1) 120 [zR 0, zI v1, zI v2] M = Q d 120 0 [zR 0, zI v1, zI v2] [] M := e_in (Nat.le_of_ble_eq_true rfl)
-- DungeonBuilder.corridor(II)I
theorem q_121_0 {d : Nat} (v1 v2 : Int) (M : ZM) : Q d 121 0 [zR 0, zI v1, zI v2] [] M = Cb (E d 16 [zR 1, zI v1] M) (fun v h => zrun (zevl d) 121 8 [zR 0, zI v1, zI v2] (v.toList ++ []) h) := by
  refine Eq.trans (s_aloadn f_121_0 rfl) ?_
  refine Eq.trans (s_getR f_121_1 g_121_12 (by decide) kn_0 rf_0_0) ?_
  refine Eq.trans (s_iloadn f_121_4 rfl) ?_
  exact s_call [zR 1, zI v1] [] f_121_5 rfl c_121_213 rfl rfl (Nat.le_of_ble_eq_true rfl) (by show (zkn SH 1 == zown 16) = true; rw [show zkn SH 1 = 1 from kn_1]; rfl)
theorem q_121_8 {d : Nat} (v1 v2 s0 : Int) (M : ZM) : Q d 121 8 [zR 0, zI v1, zI v2] [zI s0] M = if s0 ≠ 0 then (if v2 = 0 then (if 0 ≤ v1 ∧ v1 < 20 then Rt (some (zI (M 7 v1))) M else none) else (if v2 = 1 then (if 0 ≤ v1 ∧ v1 < 20 then Rt (some (zI (M 8 v1))) M else none) else (if v2 = 2 then (if 0 ≤ v1 ∧ v1 < 20 then Cb (E d 147 [zI (M 9 v1)] M) (fun v h => zrun (zevl d) 121 76 [zR 0, zI v1, zI v2] (v.toList ++ []) h) else none) else (if v2 = 3 then (Cb (E d 52 [zR 132, zR 1] M) (fun v h => zrun (zevl d) 121 88 [zR 0, zI v1, zI v2] (v.toList ++ []) h)) else (Rt (some (zI (-102))) M))))) else (Rt (some (zI (-101))) M) := by
  refine Eq.trans (s_if (P := s0 ≠ 0) 14 f_121_8 (by decide) rfl) (ite_cg (fun h1 => ?_) (fun h1 => ?_))
  · refine Eq.trans (s_iloadn f_121_14 rfl) ?_
    refine Eq.trans (w_121_15) ?_
    refine ite_cg (fun h3 => ?_) (fun h3 => ?_)
    · refine Eq.trans (s_aloadn f_121_44 rfl) ?_
      refine Eq.trans (s_getR f_121_45 g_121_12 (by decide) kn_0 rf_0_0) ?_
      refine Eq.trans (s_getR f_121_48 g_121_216 (by decide) kn_1 rf_1_5) ?_
      refine Eq.trans (s_iloadn f_121_51 rfl) ?_
      refine Eq.trans (s_iald f_121_52 kn_7 ln_7) (gd_cg fun h4 => ?_)
      exact s_iret f_121_53 t_121
    refine ite_cg (fun h5 => ?_) (fun h5 => ?_)
    · refine Eq.trans (s_aloadn f_121_54 rfl) ?_
      refine Eq.trans (s_getR f_121_55 g_121_12 (by decide) kn_0 rf_0_0) ?_
      refine Eq.trans (s_getR f_121_58 g_121_219 (by decide) kn_1 rf_1_6) ?_
      refine Eq.trans (s_iloadn f_121_61 rfl) ?_
      refine Eq.trans (s_iald f_121_62 kn_8 ln_8) (gd_cg fun h6 => ?_)
      exact s_iret f_121_63 t_121
    refine ite_cg (fun h7 => ?_) (fun h7 => ?_)
    · refine Eq.trans (s_aloadn f_121_64 rfl) ?_
      refine Eq.trans (s_getR f_121_65 g_121_12 (by decide) kn_0 rf_0_0) ?_
      refine Eq.trans (s_getR f_121_68 g_121_222 (by decide) kn_1 rf_1_7) ?_
      refine Eq.trans (s_iloadn f_121_71 rfl) ?_
      refine Eq.trans (s_iald f_121_72 kn_9 ln_9) (gd_cg fun h8 => ?_)
      exact s_call [zI (M 9 v1)] [] f_121_73 rfl c_121_201 rfl rfl (Nat.le_of_ble_eq_true rfl) rfl
    refine ite_cg (fun h9 => ?_) (fun h9 => ?_)
    · refine Eq.trans (s_aloadn f_121_77 rfl) ?_
      refine Eq.trans (s_getR f_121_78 g_121_64 (by decide) kn_0 rf_0_8) ?_
      refine Eq.trans (s_aloadn f_121_81 rfl) ?_
      refine Eq.trans (s_getR f_121_82 g_121_12 (by decide) kn_0 rf_0_0) ?_
      exact s_call [zR 132, zR 1] [] f_121_85 rfl c_121_160 rfl rfl (Nat.le_of_ble_eq_true rfl) (by show (zkn SH 132 == zown 52) = true; rw [show zkn SH 132 = 3 from kn_132]; rfl)
    refine Eq.trans (s_bipush f_121_101) ?_
    exact s_iret f_121_103 t_121
  · refine Eq.trans (s_bipush f_121_11) ?_
    exact s_iret f_121_13 t_121
theorem q_121_76 {d : Nat} (v1 v2 s0 : Int) (M : ZM) : Q d 121 76 [zR 0, zI v1, zI v2] [zI s0] M = Rt (some (zI s0)) M := by
  exact s_iret f_121_76 t_121
theorem q_121_88 {d : Nat} (v1 v2 : Int) (M : ZM) : Q d 121 88 [zR 0, zI v1, zI v2] [] M = Cb (E d 56 [zR 132, zR 1, zI v1] M) (fun v h => zrun (zevl d) 121 100 [zR 0, zI v1, zI v2] (v.toList ++ []) h) := by
  refine Eq.trans (s_aloadn f_121_88 rfl) ?_
  refine Eq.trans (s_getR f_121_89 g_121_64 (by decide) kn_0 rf_0_8) ?_
  refine Eq.trans (s_aloadn f_121_92 rfl) ?_
  refine Eq.trans (s_getR f_121_93 g_121_12 (by decide) kn_0 rf_0_0) ?_
  refine Eq.trans (s_iloadn f_121_96 rfl) ?_
  exact s_call [zR 132, zR 1, zI v1] [] f_121_97 rfl c_121_225 rfl rfl (Nat.le_of_ble_eq_true rfl) (by show (zkn SH 132 == zown 56) = true; rw [show zkn SH 132 = 3 from kn_132]; rfl)
theorem q_121_100 {d : Nat} (v1 v2 s0 : Int) (M : ZM) : Q d 121 100 [zR 0, zI v1, zI v2] [zI s0] M = Rt (some (zI s0)) M := by
  exact s_iret f_121_100 t_121
theorem en_121 {d : Nat} (v1 v2 : Int) (M : ZM) : E (d + 1) 121 [zR 0, zI v1, zI v2] M = Q d 121 0 [zR 0, zI v1, zI v2] [] M := e_in (Nat.le_of_ble_eq_true rfl)
-- DungeonBuilder.between(II)I
theorem q_122_0 {d : Nat} (v1 v2 : Int) (M : ZM) : Q d 122 0 [zR 0, zI v1, zI v2, zU] [] M = Cb (E d 15 [zR 1, zI v1] M) (fun v h => zrun (zevl d) 122 8 [zR 0, zI v1, zI v2, zU] (v.toList ++ []) h) := by
  refine Eq.trans (s_aloadn f_122_0 rfl) ?_
  refine Eq.trans (s_getR f_122_1 g_122_12 (by decide) kn_0 rf_0_0) ?_
  refine Eq.trans (s_iloadn f_122_4 rfl) ?_
  exact s_call [zR 1, zI v1] [] f_122_5 rfl c_122_181 rfl rfl (Nat.le_of_ble_eq_true rfl) (by show (zkn SH 1 == zown 15) = true; rw [show zkn SH 1 = 1 from kn_1]; rfl)
theorem q_122_8 {d : Nat} (v1 v2 s0 : Int) (M : ZM) : Q d 122 8 [zR 0, zI v1, zI v2, zU] [zI s0] M = if s0 = 0 then (Rt (some (zI (-101))) M) else (Cb (E d 15 [zR 1, zI v2] M) (fun v h => zrun (zevl d) 122 19 [zR 0, zI v1, zI v2, zU] (v.toList ++ []) h)) := by
  refine Eq.trans (s_if (P := s0 = 0) 22 f_122_8 (by decide) rfl) (ite_cg (fun h1 => ?_) (fun h1 => ?_))
  · refine Eq.trans (s_bipush f_122_22) ?_
    exact s_iret f_122_24 t_122
  · refine Eq.trans (s_aloadn f_122_11 rfl) ?_
    refine Eq.trans (s_getR f_122_12 g_122_12 (by decide) kn_0 rf_0_0) ?_
    refine Eq.trans (s_iloadn f_122_15 rfl) ?_
    exact s_call [zR 1, zI v2] [] f_122_16 rfl c_122_181 rfl rfl (Nat.le_of_ble_eq_true rfl) (by show (zkn SH 1 == zown 15) = true; rw [show zkn SH 1 = 1 from kn_1]; rfl)
theorem q_122_19 {d : Nat} (v1 v2 s0 : Int) (M : ZM) : Q d 122 19 [zR 0, zI v1, zI v2, zU] [zI s0] M = if s0 ≠ 0 then (Cb (E d 30 [zR 1, zI v1, zI v2] M) (fun v h => zrun (zevl d) 122 34 [zR 0, zI v1, zI v2, zU] (v.toList ++ []) h)) else (Rt (some (zI (-101))) M) := by
  refine Eq.trans (s_if (P := s0 ≠ 0) 25 f_122_19 (by decide) rfl) (ite_cg (fun h1 => ?_) (fun h1 => ?_))
  · refine Eq.trans (s_aloadn f_122_25 rfl) ?_
    refine Eq.trans (s_getR f_122_26 g_122_12 (by decide) kn_0 rf_0_0) ?_
    refine Eq.trans (s_iloadn f_122_29 rfl) ?_
    refine Eq.trans (s_iloadn f_122_30 rfl) ?_
    exact s_call [zR 1, zI v1, zI v2] [] f_122_31 rfl c_122_228 rfl rfl (Nat.le_of_ble_eq_true rfl) (by show (zkn SH 1 == zown 30) = true; rw [show zkn SH 1 = 1 from kn_1]; rfl)
  · refine Eq.trans (s_bipush f_122_22) ?_
    exact s_iret f_122_24 t_122
theorem q_122_34 {d : Nat} (v1 v2 s0 : Int) (M : ZM) : Q d 122 34 [zR 0, zI v1, zI v2, zU] [zI s0] M = if s0 ≠ (-1) then (Rt (some (zI s0)) M) else (Rt (some (zI (-104))) M) := by
  refine Eq.trans (s_istoren f_122_34 rfl) ?_
  refine Eq.trans (s_iloadn f_122_35 rfl) ?_
  refine Eq.trans (s_iconst f_122_36) ?_
  refine Eq.trans (s_icmp (P := s0 ≠ (-1)) 45 f_122_37 (by decide) rfl) (ite_cg (fun h1 => ?_) (fun h1 => ?_))
  · refine Eq.trans (s_iloadn f_122_45 rfl) ?_
    exact s_iret f_122_46 t_122
  · refine Eq.trans (s_bipush f_122_40) ?_
    refine Eq.trans (s_goto 46 f_122_42 (by decide)) ?_
    exact s_iret f_122_46 t_122
theorem en_122 {d : Nat} (v1 v2 : Int) (M : ZM) : E (d + 1) 122 [zR 0, zI v1, zI v2] M = Q d 122 0 [zR 0, zI v1, zI v2, zU] [] M := e_in (Nat.le_of_ble_eq_true rfl)
-- DungeonBuilder.entrance()I
theorem q_123_0 {d : Nat} (M : ZM) : Q d 123 0 [zR 0] [] M = if (M 1 8) ≠ 0 then (Rt (some (zI (M 1 10))) M) else (Rt (some (zI (-104))) M) := by
  refine Eq.trans (s_aloadn f_123_0 rfl) ?_
  refine Eq.trans (s_getR f_123_1 g_123_12 (by decide) kn_0 rf_0_0) ?_
  refine Eq.trans (s_getI f_123_4 g_123_110 (by decide) kn_1) ?_
  refine Eq.trans (s_if (P := (M 1 8) ≠ 0) 15 f_123_7 (by decide) rfl) (ite_cg (fun h1 => ?_) (fun h1 => ?_))
  · refine Eq.trans (s_aloadn f_123_15 rfl) ?_
    refine Eq.trans (s_getR f_123_16 g_123_12 (by decide) kn_0 rf_0_0) ?_
    refine Eq.trans (s_getI f_123_19 g_123_231 (by decide) kn_1) ?_
    exact s_iret f_123_22 t_123
  · refine Eq.trans (s_bipush f_123_10) ?_
    refine Eq.trans (s_goto 22 f_123_12 (by decide)) ?_
    exact s_iret f_123_22 t_123
theorem en_123 {d : Nat} (M : ZM) : E (d + 1) 123 [zR 0] M = Q d 123 0 [zR 0] [] M := e_in (Nat.le_of_ble_eq_true rfl)
-- DungeonBuilder.cell(II)I
theorem q_124_0 {d : Nat} (v1 v2 : Int) (M : ZM) : Q d 124 0 [zR 0, zI v1, zI v2, zU] [] M = Cb (E d 150 [zI v1, zI v2] M) (fun v h => zrun (zevl d) 124 5 [zR 0, zI v1, zI v2, zU] (v.toList ++ []) h) := by
  refine Eq.trans (s_iloadn f_124_0 rfl) ?_
  refine Eq.trans (s_iloadn f_124_1 rfl) ?_
  exact s_call [zI v1, zI v2] [] f_124_2 rfl c_124_234 rfl rfl (Nat.le_of_ble_eq_true rfl) rfl
theorem q_124_5 {d : Nat} (v1 v2 s0 : Int) (M : ZM) : Q d 124 5 [zR 0, zI v1, zI v2, zU] [zI s0] M = if s0 ≠ (-1) then (Cb (E d 52 [zR 132, zR 1] M) (fun v h => zrun (zevl d) 124 25 [zR 0, zI v1, zI v2, zI s0] (v.toList ++ []) h)) else (Rt (some (zI (-101))) M) := by
  refine Eq.trans (s_istoren f_124_5 rfl) ?_
  refine Eq.trans (s_iloadn f_124_6 rfl) ?_
  refine Eq.trans (s_iconst f_124_7) ?_
  refine Eq.trans (s_icmp (P := s0 ≠ (-1)) 14 f_124_8 (by decide) rfl) (ite_cg (fun h1 => ?_) (fun h1 => ?_))
  · refine Eq.trans (s_aloadn f_124_14 rfl) ?_
    refine Eq.trans (s_getR f_124_15 g_124_64 (by decide) kn_0 rf_0_8) ?_
    refine Eq.trans (s_aloadn f_124_18 rfl) ?_
    refine Eq.trans (s_getR f_124_19 g_124_12 (by decide) kn_0 rf_0_0) ?_
    exact s_call [zR 132, zR 1] [] f_124_22 rfl c_124_160 rfl rfl (Nat.le_of_ble_eq_true rfl) (by show (zkn SH 132 == zown 52) = true; rw [show zkn SH 132 = 3 from kn_132]; rfl)
  · refine Eq.trans (s_bipush f_124_11) ?_
    exact s_iret f_124_13 t_124
theorem q_124_25 {d : Nat} (v1 v2 v3 : Int) (M : ZM) : Q d 124 25 [zR 0, zI v1, zI v2, zI v3] [] M = Cb (E d 59 [zR 132, zI v3] M) (fun v h => zrun (zevl d) 124 33 [zR 0, zI v1, zI v2, zI v3] (v.toList ++ []) h) := by
  refine Eq.trans (s_aloadn f_124_25 rfl) ?_
  refine Eq.trans (s_getR f_124_26 g_124_64 (by decide) kn_0 rf_0_8) ?_
  refine Eq.trans (s_iloadn f_124_29 rfl) ?_
  exact s_call [zR 132, zI v3] [] f_124_30 rfl c_124_237 rfl rfl (Nat.le_of_ble_eq_true rfl) (by show (zkn SH 132 == zown 59) = true; rw [show zkn SH 132 = 3 from kn_132]; rfl)
theorem q_124_33 {d : Nat} (v1 v2 v3 s0 : Int) (M : ZM) : Q d 124 33 [zR 0, zI v1, zI v2, zI v3] [zI s0] M = Rt (some (zI s0)) M := by
  exact s_iret f_124_33 t_124
theorem en_124 {d : Nat} (v1 v2 : Int) (M : ZM) : E (d + 1) 124 [zR 0, zI v1, zI v2] M = Q d 124 0 [zR 0, zI v1, zI v2, zU] [] M := e_in (Nat.le_of_ble_eq_true rfl)
-- DungeonBuilder.sign(II)I
theorem q_125_0 {d : Nat} (v1 v2 : Int) (M : ZM) : Q d 125 0 [zR 0, zI v1, zI v2, zU] [] M = Cb (E d 150 [zI v1, zI v2] M) (fun v h => zrun (zevl d) 125 5 [zR 0, zI v1, zI v2, zU] (v.toList ++ []) h) := by
  refine Eq.trans (s_iloadn f_125_0 rfl) ?_
  refine Eq.trans (s_iloadn f_125_1 rfl) ?_
  exact s_call [zI v1, zI v2] [] f_125_2 rfl c_125_234 rfl rfl (Nat.le_of_ble_eq_true rfl) rfl
theorem q_125_5 {d : Nat} (v1 v2 s0 : Int) (M : ZM) : Q d 125 5 [zR 0, zI v1, zI v2, zU] [zI s0] M = if s0 ≠ (-1) then (Cb (E d 52 [zR 132, zR 1] M) (fun v h => zrun (zevl d) 125 25 [zR 0, zI v1, zI v2, zI s0] (v.toList ++ []) h)) else (Rt (some (zI (-101))) M) := by
  refine Eq.trans (s_istoren f_125_5 rfl) ?_
  refine Eq.trans (s_iloadn f_125_6 rfl) ?_
  refine Eq.trans (s_iconst f_125_7) ?_
  refine Eq.trans (s_icmp (P := s0 ≠ (-1)) 14 f_125_8 (by decide) rfl) (ite_cg (fun h1 => ?_) (fun h1 => ?_))
  · refine Eq.trans (s_aloadn f_125_14 rfl) ?_
    refine Eq.trans (s_getR f_125_15 g_125_64 (by decide) kn_0 rf_0_8) ?_
    refine Eq.trans (s_aloadn f_125_18 rfl) ?_
    refine Eq.trans (s_getR f_125_19 g_125_12 (by decide) kn_0 rf_0_0) ?_
    exact s_call [zR 132, zR 1] [] f_125_22 rfl c_125_160 rfl rfl (Nat.le_of_ble_eq_true rfl) (by show (zkn SH 132 == zown 52) = true; rw [show zkn SH 132 = 3 from kn_132]; rfl)
  · refine Eq.trans (s_bipush f_125_11) ?_
    exact s_iret f_125_13 t_125
theorem q_125_25 {d : Nat} (v1 v2 v3 : Int) (M : ZM) : Q d 125 25 [zR 0, zI v1, zI v2, zI v3] [] M = Cb (E d 60 [zR 132, zR 1, zI v3] M) (fun v h => zrun (zevl d) 125 37 [zR 0, zI v1, zI v2, zI v3] (v.toList ++ []) h) := by
  refine Eq.trans (s_aloadn f_125_25 rfl) ?_
  refine Eq.trans (s_getR f_125_26 g_125_64 (by decide) kn_0 rf_0_8) ?_
  refine Eq.trans (s_aloadn f_125_29 rfl) ?_
  refine Eq.trans (s_getR f_125_30 g_125_12 (by decide) kn_0 rf_0_0) ?_
  refine Eq.trans (s_iloadn f_125_33 rfl) ?_
  exact s_call [zR 132, zR 1, zI v3] [] f_125_34 rfl c_125_240 rfl rfl (Nat.le_of_ble_eq_true rfl) (by show (zkn SH 132 == zown 60) = true; rw [show zkn SH 132 = 3 from kn_132]; rfl)
theorem q_125_37 {d : Nat} (v1 v2 v3 s0 : Int) (M : ZM) : Q d 125 37 [zR 0, zI v1, zI v2, zI v3] [zI s0] M = Rt (some (zI s0)) M := by
  exact s_iret f_125_37 t_125
theorem en_125 {d : Nat} (v1 v2 : Int) (M : ZM) : E (d + 1) 125 [zR 0, zI v1, zI v2] M = Q d 125 0 [zR 0, zI v1, zI v2, zU] [] M := e_in (Nat.le_of_ble_eq_true rfl)
-- DungeonBuilder.steps(IIII)I
theorem q_126_0 {d : Nat} (v1 v2 v3 v4 : Int) (M : ZM) : Q d 126 0 [zR 0, zI v1, zI v2, zI v3, zI v4, zU, zU] [] M = Cb (E d 150 [zI v1, zI v2] M) (fun v h => zrun (zevl d) 126 5 [zR 0, zI v1, zI v2, zI v3, zI v4, zU, zU] (v.toList ++ []) h) := by
  refine Eq.trans (s_iloadn f_126_0 rfl) ?_
  refine Eq.trans (s_iloadn f_126_1 rfl) ?_
  exact s_call [zI v1, zI v2] [] f_126_2 rfl c_126_234 rfl rfl (Nat.le_of_ble_eq_true rfl) rfl
theorem q_126_5 {d : Nat} (v1 v2 v3 v4 s0 : Int) (M : ZM) : Q d 126 5 [zR 0, zI v1, zI v2, zI v3, zI v4, zU, zU] [zI s0] M = Cb (E d 150 [zI v3, zI v4] M) (fun v h => zrun (zevl d) 126 13 [zR 0, zI v1, zI v2, zI v3, zI v4, zI s0, zU] (v.toList ++ []) h) := by
  refine Eq.trans (s_istore f_126_5 rfl) ?_
  refine Eq.trans (s_iloadn f_126_7 rfl) ?_
  refine Eq.trans (s_iload f_126_8 rfl) ?_
  exact s_call [zI v3, zI v4] [] f_126_10 rfl c_126_234 rfl rfl (Nat.le_of_ble_eq_true rfl) rfl
theorem q_126_13 {d : Nat} (v1 v2 v3 v4 v5 s0 : Int) (M : ZM) : Q d 126 13 [zR 0, zI v1, zI v2, zI v3, zI v4, zI v5, zU] [zI s0] M = if v5 = (-1) then (Rt (some (zI (-101))) M) else (if s0 ≠ (-1) then (Cb (E d 52 [zR 132, zR 1] M) (fun v h => zrun (zevl d) 126 41 [zR 0, zI v1, zI v2, zI v3, zI v4, zI v5, zI s0] (v.toList ++ []) h)) else (Rt (some (zI (-101))) M)) := by
  refine Eq.trans (s_istore f_126_13 rfl) ?_
  refine Eq.trans (s_iload f_126_15 rfl) ?_
  refine Eq.trans (s_iconst f_126_17) ?_
  refine Eq.trans (s_icmp (P := v5 = (-1)) 27 f_126_18 (by decide) rfl) (ite_cg (fun h1 => ?_) (fun h1 => ?_))
  · refine Eq.trans (s_bipush f_126_27) ?_
    exact s_iret f_126_29 t_126
  · refine Eq.trans (s_iload f_126_21 rfl) ?_
    refine Eq.trans (s_iconst f_126_23) ?_
    refine Eq.trans (s_icmp (P := s0 ≠ (-1)) 30 f_126_24 (by decide) rfl) (ite_cg (fun h2 => ?_) (fun h2 => ?_))
    · refine Eq.trans (s_aloadn f_126_30 rfl) ?_
      refine Eq.trans (s_getR f_126_31 g_126_64 (by decide) kn_0 rf_0_8) ?_
      refine Eq.trans (s_aloadn f_126_34 rfl) ?_
      refine Eq.trans (s_getR f_126_35 g_126_12 (by decide) kn_0 rf_0_0) ?_
      exact s_call [zR 132, zR 1] [] f_126_38 rfl c_126_160 rfl rfl (Nat.le_of_ble_eq_true rfl) (by show (zkn SH 132 == zown 52) = true; rw [show zkn SH 132 = 3 from kn_132]; rfl)
    · refine Eq.trans (s_bipush f_126_27) ?_
      exact s_iret f_126_29 t_126
theorem q_126_41 {d : Nat} (v1 v2 v3 v4 v5 v6 : Int) (M : ZM) : Q d 126 41 [zR 0, zI v1, zI v2, zI v3, zI v4, zI v5, zI v6] [] M = Cb (E d 58 [zR 132, zI v5] M) (fun v h => zrun (zevl d) 126 50 [zR 0, zI v1, zI v2, zI v3, zI v4, zI v5, zI v6] (v.toList ++ []) h) := by
  refine Eq.trans (s_aloadn f_126_41 rfl) ?_
  refine Eq.trans (s_getR f_126_42 g_126_64 (by decide) kn_0 rf_0_8) ?_
  refine Eq.trans (s_iload f_126_45 rfl) ?_
  exact s_call [zR 132, zI v5] [] f_126_47 rfl c_126_243 rfl rfl (Nat.le_of_ble_eq_true rfl) (by show (zkn SH 132 == zown 58) = true; rw [show zkn SH 132 = 3 from kn_132]; rfl)
theorem q_126_50 {d : Nat} (v1 v2 v3 v4 v5 v6 s0 : Int) (M : ZM) : Q d 126 50 [zR 0, zI v1, zI v2, zI v3, zI v4, zI v5, zI v6] [zI s0] M = if s0 = 0 then (Rt (some (zI (-102))) M) else (Cb (E d 58 [zR 132, zI v6] M) (fun v h => zrun (zevl d) 126 62 [zR 0, zI v1, zI v2, zI v3, zI v4, zI v5, zI v6] (v.toList ++ []) h)) := by
  refine Eq.trans (s_if (P := s0 = 0) 65 f_126_50 (by decide) rfl) (ite_cg (fun h1 => ?_) (fun h1 => ?_))
  · refine Eq.trans (s_bipush f_126_65) ?_
    exact s_iret f_126_67 t_126
  · refine Eq.trans (s_aloadn f_126_53 rfl) ?_
    refine Eq.trans (s_getR f_126_54 g_126_64 (by decide) kn_0 rf_0_8) ?_
    refine Eq.trans (s_iload f_126_57 rfl) ?_
    exact s_call [zR 132, zI v6] [] f_126_59 rfl c_126_243 rfl rfl (Nat.le_of_ble_eq_true rfl) (by show (zkn SH 132 == zown 58) = true; rw [show zkn SH 132 = 3 from kn_132]; rfl)
theorem q_126_62 {d : Nat} (v1 v2 v3 v4 v5 v6 s0 : Int) (M : ZM) : Q d 126 62 [zR 0, zI v1, zI v2, zI v3, zI v4, zI v5, zI v6] [zI s0] M = if s0 ≠ 0 then (Cb (E d 62 [zR 132, zI v5, zI v6] M) (fun v h => zrun (zevl d) 126 79 [zR 0, zI v1, zI v2, zI v3, zI v4, zI v5, zI v6] (v.toList ++ []) h)) else (Rt (some (zI (-102))) M) := by
  refine Eq.trans (s_if (P := s0 ≠ 0) 68 f_126_62 (by decide) rfl) (ite_cg (fun h1 => ?_) (fun h1 => ?_))
  · refine Eq.trans (s_aloadn f_126_68 rfl) ?_
    refine Eq.trans (s_getR f_126_69 g_126_64 (by decide) kn_0 rf_0_8) ?_
    refine Eq.trans (s_iload f_126_72 rfl) ?_
    refine Eq.trans (s_iload f_126_74 rfl) ?_
    exact s_call [zR 132, zI v5, zI v6] [] f_126_76 rfl c_126_246 rfl rfl (Nat.le_of_ble_eq_true rfl) (by show (zkn SH 132 == zown 62) = true; rw [show zkn SH 132 = 3 from kn_132]; rfl)
  · refine Eq.trans (s_bipush f_126_65) ?_
    exact s_iret f_126_67 t_126
theorem q_126_79 {d : Nat} (v1 v2 v3 v4 v5 v6 s0 : Int) (M : ZM) : Q d 126 79 [zR 0, zI v1, zI v2, zI v3, zI v4, zI v5, zI v6] [zI s0] M = Rt (some (zI s0)) M := by
  exact s_iret f_126_79 t_126
theorem en_126 {d : Nat} (v1 v2 v3 v4 : Int) (M : ZM) : E (d + 1) 126 [zR 0, zI v1, zI v2, zI v3, zI v4] M = Q d 126 0 [zR 0, zI v1, zI v2, zI v3, zI v4, zU, zU] [] M := e_in (Nat.le_of_ble_eq_true rfl)
-- DungeonBuilder.depth(I)I
theorem q_127_0 {d : Nat} (v1 : Int) (M : ZM) : Q d 127 0 [zR 0, zI v1] [] M = Cb (E d 15 [zR 1, zI v1] M) (fun v h => zrun (zevl d) 127 8 [zR 0, zI v1] (v.toList ++ []) h) := by
  refine Eq.trans (s_aloadn f_127_0 rfl) ?_
  refine Eq.trans (s_getR f_127_1 g_127_12 (by decide) kn_0 rf_0_0) ?_
  refine Eq.trans (s_iloadn f_127_4 rfl) ?_
  exact s_call [zR 1, zI v1] [] f_127_5 rfl c_127_181 rfl rfl (Nat.le_of_ble_eq_true rfl) (by show (zkn SH 1 == zown 15) = true; rw [show zkn SH 1 = 1 from kn_1]; rfl)
theorem q_127_8 {d : Nat} (v1 s0 : Int) (M : ZM) : Q d 127 8 [zR 0, zI v1] [zI s0] M = if s0 ≠ 0 then (Cb (E d 43 [zR 120, zR 1] M) (fun v h => zrun (zevl d) 127 25 [zR 0, zI v1] (v.toList ++ []) h)) else (Rt (some (zI (-101))) M) := by
  refine Eq.trans (s_if (P := s0 ≠ 0) 14 f_127_8 (by decide) rfl) (ite_cg (fun h1 => ?_) (fun h1 => ?_))
  · refine Eq.trans (s_aloadn f_127_14 rfl) ?_
    refine Eq.trans (s_getR f_127_15 g_127_50 (by decide) kn_0 rf_0_6) ?_
    refine Eq.trans (s_aloadn f_127_18 rfl) ?_
    refine Eq.trans (s_getR f_127_19 g_127_12 (by decide) kn_0 rf_0_0) ?_
    exact s_call [zR 120, zR 1] [] f_127_22 rfl c_127_249 rfl rfl (Nat.le_of_ble_eq_true rfl) (by show (zkn SH 120 == zown 43) = true; rw [show zkn SH 120 = 2 from kn_120]; rfl)
  · refine Eq.trans (s_bipush f_127_11) ?_
    exact s_iret f_127_13 t_127
theorem q_127_25 {d : Nat} (v1 : Int) (M : ZM) : Q d 127 25 [zR 0, zI v1] [] M = if 0 ≤ v1 ∧ v1 < 12 then Rt (some (zI (M 121 v1))) M else none := by
  refine Eq.trans (s_aloadn f_127_25 rfl) ?_
  refine Eq.trans (s_getR f_127_26 g_127_50 (by decide) kn_0 rf_0_6) ?_
  refine Eq.trans (s_getR f_127_29 g_127_252 (by decide) kn_120 rf_120_0) ?_
  refine Eq.trans (s_iloadn f_127_32 rfl) ?_
  refine Eq.trans (s_iald f_127_33 kn_121 ln_121) (gd_cg fun h1 => ?_)
  exact s_iret f_127_34 t_127
theorem en_127 {d : Nat} (v1 : Int) (M : ZM) : E (d + 1) 127 [zR 0, zI v1] M = Q d 127 0 [zR 0, zI v1] [] M := e_in (Nat.le_of_ble_eq_true rfl)
-- DungeonBuilder.difficulty(I)I
theorem q_128_0 {d : Nat} (v1 : Int) (M : ZM) : Q d 128 0 [zR 0, zI v1] [] M = Cb (E d 15 [zR 1, zI v1] M) (fun v h => zrun (zevl d) 128 8 [zR 0, zI v1] (v.toList ++ []) h) := by
  refine Eq.trans (s_aloadn f_128_0 rfl) ?_
  refine Eq.trans (s_getR f_128_1 g_128_12 (by decide) kn_0 rf_0_0) ?_
  refine Eq.trans (s_iloadn f_128_4 rfl) ?_
  exact s_call [zR 1, zI v1] [] f_128_5 rfl c_128_181 rfl rfl (Nat.le_of_ble_eq_true rfl) (by show (zkn SH 1 == zown 15) = true; rw [show zkn SH 1 = 1 from kn_1]; rfl)
theorem q_128_8 {d : Nat} (v1 s0 : Int) (M : ZM) : Q d 128 8 [zR 0, zI v1] [zI s0] M = if s0 ≠ 0 then (Cb (E d 43 [zR 120, zR 1] M) (fun v h => zrun (zevl d) 128 25 [zR 0, zI v1] (v.toList ++ []) h)) else (Rt (some (zI (-101))) M) := by
  refine Eq.trans (s_if (P := s0 ≠ 0) 14 f_128_8 (by decide) rfl) (ite_cg (fun h1 => ?_) (fun h1 => ?_))
  · refine Eq.trans (s_aloadn f_128_14 rfl) ?_
    refine Eq.trans (s_getR f_128_15 g_128_50 (by decide) kn_0 rf_0_6) ?_
    refine Eq.trans (s_aloadn f_128_18 rfl) ?_
    refine Eq.trans (s_getR f_128_19 g_128_12 (by decide) kn_0 rf_0_0) ?_
    exact s_call [zR 120, zR 1] [] f_128_22 rfl c_128_249 rfl rfl (Nat.le_of_ble_eq_true rfl) (by show (zkn SH 120 == zown 43) = true; rw [show zkn SH 120 = 2 from kn_120]; rfl)
  · refine Eq.trans (s_bipush f_128_11) ?_
    exact s_iret f_128_13 t_128
theorem q_128_25 {d : Nat} (v1 : Int) (M : ZM) : Q d 128 25 [zR 0, zI v1] [] M = if 0 ≤ v1 ∧ v1 < 12 then Rt (some (zI (M 122 v1))) M else none := by
  refine Eq.trans (s_aloadn f_128_25 rfl) ?_
  refine Eq.trans (s_getR f_128_26 g_128_50 (by decide) kn_0 rf_0_6) ?_
  refine Eq.trans (s_getR f_128_29 g_128_255 (by decide) kn_120 rf_120_1) ?_
  refine Eq.trans (s_iloadn f_128_32 rfl) ?_
  refine Eq.trans (s_iald f_128_33 kn_122 ln_122) (gd_cg fun h1 => ?_)
  exact s_iret f_128_34 t_128
theorem en_128 {d : Nat} (v1 : Int) (M : ZM) : E (d + 1) 128 [zR 0, zI v1] M = Q d 128 0 [zR 0, zI v1] [] M := e_in (Nat.le_of_ble_eq_true rfl)
-- DungeonBuilder.visits()I
theorem q_129_0 {d : Nat} (M : ZM) : Q d 129 0 [zR 0] [] M = Cb (E d 43 [zR 120, zR 1] M) (fun v h => zrun (zevl d) 129 11 [zR 0] (v.toList ++ []) h) := by
  refine Eq.trans (s_aloadn f_129_0 rfl) ?_
  refine Eq.trans (s_getR f_129_1 g_129_50 (by decide) kn_0 rf_0_6) ?_
  refine Eq.trans (s_aloadn f_129_4 rfl) ?_
  refine Eq.trans (s_getR f_129_5 g_129_12 (by decide) kn_0 rf_0_0) ?_
  exact s_call [zR 120, zR 1] [] f_129_8 rfl c_129_249 rfl rfl (Nat.le_of_ble_eq_true rfl) (by show (zkn SH 120 == zown 43) = true; rw [show zkn SH 120 = 2 from kn_120]; rfl)
theorem q_129_11 {d : Nat} (M : ZM) : Q d 129 11 [zR 0] [] M = Rt (some (zI (M 120 4))) M := by
  refine Eq.trans (s_aloadn f_129_11 rfl) ?_
  refine Eq.trans (s_getR f_129_12 g_129_50 (by decide) kn_0 rf_0_6) ?_
  refine Eq.trans (s_getI f_129_15 g_129_258 (by decide) kn_120) ?_
  exact s_iret f_129_18 t_129
theorem en_129 {d : Nat} (M : ZM) : E (d + 1) 129 [zR 0] M = Q d 129 0 [zR 0] [] M := e_in (Nat.le_of_ble_eq_true rfl)
-- DungeonBuilder.visit(I)I
theorem q_130_0 {d : Nat} (v1 : Int) (M : ZM) : Q d 130 0 [zR 0, zI v1] [] M = Cb (E d 43 [zR 120, zR 1] M) (fun v h => zrun (zevl d) 130 11 [zR 0, zI v1] (v.toList ++ []) h) := by
  refine Eq.trans (s_aloadn f_130_0 rfl) ?_
  refine Eq.trans (s_getR f_130_1 g_130_50 (by decide) kn_0 rf_0_6) ?_
  refine Eq.trans (s_aloadn f_130_4 rfl) ?_
  refine Eq.trans (s_getR f_130_5 g_130_12 (by decide) kn_0 rf_0_0) ?_
  exact s_call [zR 120, zR 1] [] f_130_8 rfl c_130_249 rfl rfl (Nat.le_of_ble_eq_true rfl) (by show (zkn SH 120 == zown 43) = true; rw [show zkn SH 120 = 2 from kn_120]; rfl)
theorem q_130_11 {d : Nat} (v1 : Int) (M : ZM) : Q d 130 11 [zR 0, zI v1] [] M = Cb (E d 47 [zR 120, zI v1] M) (fun v h => zrun (zevl d) 130 19 [zR 0, zI v1] (v.toList ++ []) h) := by
  refine Eq.trans (s_aloadn f_130_11 rfl) ?_
  refine Eq.trans (s_getR f_130_12 g_130_50 (by decide) kn_0 rf_0_6) ?_
  refine Eq.trans (s_iloadn f_130_15 rfl) ?_
  exact s_call [zR 120, zI v1] [] f_130_16 rfl c_130_261 rfl rfl (Nat.le_of_ble_eq_true rfl) (by show (zkn SH 120 == zown 47) = true; rw [show zkn SH 120 = 2 from kn_120]; rfl)
theorem q_130_19 {d : Nat} (v1 s0 : Int) (M : ZM) : Q d 130 19 [zR 0, zI v1] [zI s0] M = if s0 = 0 then (Rt (some (zI (-101))) M) else (if 0 ≤ v1 ∧ v1 < 12 then Rt (some (zI (M 123 v1))) M else none) := by
  refine Eq.trans (s_if (P := s0 = 0) 34 f_130_19 (by decide) rfl) (ite_cg (fun h1 => ?_) (fun h1 => ?_))
  · refine Eq.trans (s_bipush f_130_34) ?_
    exact s_iret f_130_36 t_130
  · refine Eq.trans (s_aloadn f_130_22 rfl) ?_
    refine Eq.trans (s_getR f_130_23 g_130_50 (by decide) kn_0 rf_0_6) ?_
    refine Eq.trans (s_getR f_130_26 g_130_264 (by decide) kn_120 rf_120_2) ?_
    refine Eq.trans (s_iloadn f_130_29 rfl) ?_
    refine Eq.trans (s_iald f_130_30 kn_123 ln_123) (gd_cg fun h2 => ?_)
    refine Eq.trans (s_goto 36 f_130_31 (by decide)) ?_
    exact s_iret f_130_36 t_130
theorem en_130 {d : Nat} (v1 : Int) (M : ZM) : E (d + 1) 130 [zR 0, zI v1] M = Q d 130 0 [zR 0, zI v1] [] M := e_in (Nat.le_of_ble_eq_true rfl)
-- DungeonBuilder.visitedAt(I)I
theorem q_131_0 {d : Nat} (v1 : Int) (M : ZM) : Q d 131 0 [zR 0, zI v1] [] M = Cb (E d 15 [zR 1, zI v1] M) (fun v h => zrun (zevl d) 131 8 [zR 0, zI v1] (v.toList ++ []) h) := by
  refine Eq.trans (s_aloadn f_131_0 rfl) ?_
  refine Eq.trans (s_getR f_131_1 g_131_12 (by decide) kn_0 rf_0_0) ?_
  refine Eq.trans (s_iloadn f_131_4 rfl) ?_
  exact s_call [zR 1, zI v1] [] f_131_5 rfl c_131_181 rfl rfl (Nat.le_of_ble_eq_true rfl) (by show (zkn SH 1 == zown 15) = true; rw [show zkn SH 1 = 1 from kn_1]; rfl)
theorem q_131_8 {d : Nat} (v1 s0 : Int) (M : ZM) : Q d 131 8 [zR 0, zI v1] [zI s0] M = if s0 ≠ 0 then (Cb (E d 43 [zR 120, zR 1] M) (fun v h => zrun (zevl d) 131 25 [zR 0, zI v1] (v.toList ++ []) h)) else (Rt (some (zI (-101))) M) := by
  refine Eq.trans (s_if (P := s0 ≠ 0) 14 f_131_8 (by decide) rfl) (ite_cg (fun h1 => ?_) (fun h1 => ?_))
  · refine Eq.trans (s_aloadn f_131_14 rfl) ?_
    refine Eq.trans (s_getR f_131_15 g_131_50 (by decide) kn_0 rf_0_6) ?_
    refine Eq.trans (s_aloadn f_131_18 rfl) ?_
    refine Eq.trans (s_getR f_131_19 g_131_12 (by decide) kn_0 rf_0_0) ?_
    exact s_call [zR 120, zR 1] [] f_131_22 rfl c_131_249 rfl rfl (Nat.le_of_ble_eq_true rfl) (by show (zkn SH 120 == zown 43) = true; rw [show zkn SH 120 = 2 from kn_120]; rfl)
  · refine Eq.trans (s_bipush f_131_11) ?_
    exact s_iret f_131_13 t_131
theorem q_131_25 {d : Nat} (v1 : Int) (M : ZM) : Q d 131 25 [zR 0, zI v1] [] M = Cb (E d 48 [zR 120, zI v1] M) (fun v h => zrun (zevl d) 131 33 [zR 0, zI v1] (v.toList ++ []) h) := by
  refine Eq.trans (s_aloadn f_131_25 rfl) ?_
  refine Eq.trans (s_getR f_131_26 g_131_50 (by decide) kn_0 rf_0_6) ?_
  refine Eq.trans (s_iloadn f_131_29 rfl) ?_
  exact s_call [zR 120, zI v1] [] f_131_30 rfl c_131_267 rfl rfl (Nat.le_of_ble_eq_true rfl) (by show (zkn SH 120 == zown 48) = true; rw [show zkn SH 120 = 2 from kn_120]; rfl)
theorem q_131_33 {d : Nat} (v1 s0 : Int) (M : ZM) : Q d 131 33 [zR 0, zI v1] [zI s0] M = Rt (some (zI s0)) M := by
  exact s_iret f_131_33 t_131
theorem en_131 {d : Nat} (v1 : Int) (M : ZM) : E (d + 1) 131 [zR 0, zI v1] M = Q d 131 0 [zR 0, zI v1] [] M := e_in (Nat.le_of_ble_eq_true rfl)
-- DungeonBuilder.isSolvable()I
theorem q_132_0 {d : Nat} (M : ZM) : Q d 132 0 [zR 0] [] M = if (M 1 8) ≠ 0 then (Cb (E d 43 [zR 120, zR 1] M) (fun v h => zrun (zevl d) 132 24 [zR 0] (v.toList ++ []) h)) else (Rt (some (zI (-104))) M) := by
  refine Eq.trans (s_aloadn f_132_0 rfl) ?_
  refine Eq.trans (s_getR f_132_1 g_132_12 (by decide) kn_0 rf_0_0) ?_
  refine Eq.trans (s_getI f_132_4 g_132_110 (by decide) kn_1) ?_
  refine Eq.trans (s_if (P := (M 1 8) ≠ 0) 13 f_132_7 (by decide) rfl) (ite_cg (fun h1 => ?_) (fun h1 => ?_))
  · refine Eq.trans (s_aloadn f_132_13 rfl) ?_
    refine Eq.trans (s_getR f_132_14 g_132_50 (by decide) kn_0 rf_0_6) ?_
    refine Eq.trans (s_aloadn f_132_17 rfl) ?_
    refine Eq.trans (s_getR f_132_18 g_132_12 (by decide) kn_0 rf_0_0) ?_
    exact s_call [zR 120, zR 1] [] f_132_21 rfl c_132_249 rfl rfl (Nat.le_of_ble_eq_true rfl) (by show (zkn SH 120 == zown 43) = true; rw [show zkn SH 120 = 2 from kn_120]; rfl)
  · refine Eq.trans (s_bipush f_132_10) ?_
    exact s_iret f_132_12 t_132
theorem q_132_24 {d : Nat} (M : ZM) : Q d 132 24 [zR 0] [] M = if (M 120 4) ≠ (M 1 8) then (Rt (some (zI 0)) M) else (Rt (some (zI 1)) M) := by
  refine Eq.trans (s_aloadn f_132_24 rfl) ?_
  refine Eq.trans (s_getR f_132_25 g_132_50 (by decide) kn_0 rf_0_6) ?_
  refine Eq.trans (s_getI f_132_28 g_132_258 (by decide) kn_120) ?_
  refine Eq.trans (s_aloadn f_132_31 rfl) ?_
  refine Eq.trans (s_getR f_132_32 g_132_12 (by decide) kn_0 rf_0_0) ?_
  refine Eq.trans (s_getI f_132_35 g_132_110 (by decide) kn_1) ?_
  refine Eq.trans (s_icmp (P := (M 120 4) ≠ (M 1 8)) 45 f_132_38 (by decide) rfl) (ite_cg (fun h1 => ?_) (fun h1 => ?_))
  · refine Eq.trans (s_iconst f_132_45) ?_
    exact s_iret f_132_46 t_132
  · refine Eq.trans (s_iconst f_132_41) ?_
    refine Eq.trans (s_goto 46 f_132_42 (by decide)) ?_
    exact s_iret f_132_46 t_132
theorem en_132 {d : Nat} (M : ZM) : E (d + 1) 132 [zR 0] M = Q d 132 0 [zR 0] [] M := e_in (Nat.le_of_ble_eq_true rfl)
-- DungeonBuilder.keysFound()I
theorem q_133_0 {d : Nat} (M : ZM) : Q d 133 0 [zR 0] [] M = Cb (E d 76 [zR 1, zI 0, zI 0] M) (fun v h => zrun (zevl d) 133 13 [zR 0] (v.toList ++ [zR 1]) h) := by
  refine Eq.trans (s_aloadn f_133_0 rfl) ?_
  refine Eq.trans (s_getR f_133_1 g_133_12 (by decide) kn_0 rf_0_0) ?_
  refine Eq.trans (s_aloadn f_133_4 rfl) ?_
  refine Eq.trans (s_getR f_133_5 g_133_12 (by decide) kn_0 rf_0_0) ?_
  refine Eq.trans (s_iconst f_133_8) ?_
  refine Eq.trans (s_iconst f_133_9) ?_
  exact s_call [zR 1, zI 0, zI 0] [zR 1] f_133_10 rfl c_133_270 rfl rfl (Nat.le_of_ble_eq_true rfl) rfl
theorem q_133_13 {d : Nat} (s1 : Int) (M : ZM) : Q d 133 13 [zR 0] [zI s1, zR 1] M = Cb (E d 78 [zR 1, zI s1] M) (fun v h => zrun (zevl d) 133 16 [zR 0] (v.toList ++ []) h) := by
  exact s_call [zR 1, zI s1] [] f_133_13 rfl c_133_274 rfl rfl (Nat.le_of_ble_eq_true rfl) rfl
theorem q_133_16 {d : Nat} (s0 : Int) (M : ZM) : Q d 133 16 [zR 0] [zI s0] M = Rt (some (zI s0)) M := by
  exact s_iret f_133_16 t_133
theorem en_133 {d : Nat} (M : ZM) : E (d + 1) 133 [zR 0] M = Q d 133 0 [zR 0] [] M := e_in (Nat.le_of_ble_eq_true rfl)
-- DungeonBuilder.needed(I)I
theorem q_134_0 {d : Nat} (v1 : Int) (M : ZM) : Q d 134 0 [zR 0, zI v1, zU, zU] [] M = Cb (E d 15 [zR 1, zI v1] M) (fun v h => zrun (zevl d) 134 8 [zR 0, zI v1, zU, zU] (v.toList ++ []) h) := by
  refine Eq.trans (s_aloadn f_134_0 rfl) ?_
  refine Eq.trans (s_getR f_134_1 g_134_12 (by decide) kn_0 rf_0_0) ?_
  refine Eq.trans (s_iloadn f_134_4 rfl) ?_
  exact s_call [zR 1, zI v1] [] f_134_5 rfl c_134_181 rfl rfl (Nat.le_of_ble_eq_true rfl) (by show (zkn SH 1 == zown 15) = true; rw [show zkn SH 1 = 1 from kn_1]; rfl)
theorem q_134_8 {d : Nat} (v1 s0 : Int) (M : ZM) : Q d 134 8 [zR 0, zI v1, zU, zU] [zI s0] M = if s0 ≠ 0 then (Cb (E d 76 [zR 1, zI 0, zI 0] M) (fun v h => zrun (zevl d) 134 23 [zR 0, zI v1, zU, zU] (v.toList ++ []) h)) else (Rt (some (zI (-101))) M) := by
  refine Eq.trans (s_if (P := s0 ≠ 0) 14 f_134_8 (by decide) rfl) (ite_cg (fun h1 => ?_) (fun h1 => ?_))
  · refine Eq.trans (s_aloadn f_134_14 rfl) ?_
    refine Eq.trans (s_getR f_134_15 g_134_12 (by decide) kn_0 rf_0_0) ?_
    refine Eq.trans (s_iconst f_134_18) ?_
    refine Eq.trans (s_iconst f_134_19) ?_
    exact s_call [zR 1, zI 0, zI 0] [] f_134_20 rfl c_134_270 rfl rfl (Nat.le_of_ble_eq_true rfl) rfl
  · refine Eq.trans (s_bipush f_134_11) ?_
    exact s_iret f_134_13 t_134
theorem q_134_23 {d : Nat} (v1 s0 : Int) (M : ZM) : Q d 134 23 [zR 0, zI v1, zU, zU] [zI s0] M = Cb (E d 149 [zI s0, zI v1] M) (fun v h => zrun (zevl d) 134 27 [zR 0, zI v1, zU, zU] (v.toList ++ []) h) := by
  refine Eq.trans (s_iloadn f_134_23 rfl) ?_
  exact s_call [zI s0, zI v1] [] f_134_24 rfl c_134_277 rfl rfl (Nat.le_of_ble_eq_true rfl) rfl
theorem q_134_27 {d : Nat} (v1 s0 : Int) (M : ZM) : Q d 134 27 [zR 0, zI v1, zU, zU] [zI s0] M = if s0 ≠ 0 then (Q d 134 37 [zR 0, zI v1, zI 0, zI 0] [] M) else (Rt (some (zI (-104))) M) := by
  refine Eq.trans (s_if (P := s0 ≠ 0) 33 f_134_27 (by decide) rfl) (ite_cg (fun h1 => ?_) (fun h1 => ?_))
  · refine Eq.trans (s_iconst f_134_33) ?_
    refine Eq.trans (s_istoren f_134_34 rfl) ?_
    refine Eq.trans (s_iconst f_134_35) ?_
    refine Eq.trans (s_istoren f_134_36 rfl) ?_
    rfl
  · refine Eq.trans (s_bipush f_134_30) ?_
    exact s_iret f_134_32 t_134
theorem q_134_37 {d : Nat} (v1 v2 v3 : Int) (M : ZM) : Q d 134 37 [zR 0, zI v1, zI v2, zI v3] [] M = if 6 ≤ v3 then (Rt (some (zI v2)) M) else (Cb (E d 76 [zR 1, zI (zshl 1 v3), zI 0] M) (fun v h => zrun (zevl d) 134 54 [zR 0, zI v1, zI v2, zI v3] (v.toList ++ []) h)) := by
  refine Eq.trans (s_iloadn f_134_37 rfl) ?_
  refine Eq.trans (s_bipush f_134_38) ?_
  refine Eq.trans (s_icmp (P := 6 ≤ v3) 73 f_134_40 (by decide) rfl) (ite_cg (fun h1 => ?_) (fun h1 => ?_))
  · refine Eq.trans (s_iloadn f_134_73 rfl) ?_
    exact s_iret f_134_74 t_134
  · refine Eq.trans (s_aloadn f_134_43 rfl) ?_
    refine Eq.trans (s_getR f_134_44 g_134_12 (by decide) kn_0 rf_0_0) ?_
    refine Eq.trans (s_iconst f_134_47) ?_
    refine Eq.trans (s_iloadn f_134_48 rfl) ?_
    refine Eq.trans (s_ishl f_134_49) ?_
    refine Eq.trans (s_iconst f_134_50) ?_
    exact s_call [zR 1, zI (zshl 1 v3), zI 0] [] f_134_51 rfl c_134_270 rfl rfl (Nat.le_of_ble_eq_true rfl) rfl
theorem q_134_54 {d : Nat} (v1 v2 v3 s0 : Int) (M : ZM) : Q d 134 54 [zR 0, zI v1, zI v2, zI v3] [zI s0] M = Cb (E d 149 [zI s0, zI v1] M) (fun v h => zrun (zevl d) 134 58 [zR 0, zI v1, zI v2, zI v3] (v.toList ++ []) h) := by
  refine Eq.trans (s_iloadn f_134_54 rfl) ?_
  exact s_call [zI s0, zI v1] [] f_134_55 rfl c_134_277 rfl rfl (Nat.le_of_ble_eq_true rfl) rfl
theorem q_134_58 {d : Nat} (v1 v2 v3 s0 : Int) (M : ZM) : Q d 134 58 [zR 0, zI v1, zI v2, zI v3] [zI s0] M = if s0 ≠ 0 then (Q d 134 37 [zR 0, zI v1, zI v2, zI (zw (v3 + 1))] [] M) else (Q d 134 37 [zR 0, zI v1, zI (zor v2 (zshl 1 v3)), zI (zw (v3 + 1))] [] M) := by
  refine Eq.trans (s_if (P := s0 ≠ 0) 67 f_134_58 (by decide) rfl) (ite_cg (fun h1 => ?_) (fun h1 => ?_))
  · refine Eq.trans (s_iinc f_134_67 rfl rfl) ?_
    refine Eq.trans (s_goto 37 f_134_70 (by decide)) ?_
    rfl
  · refine Eq.trans (s_iloadn f_134_61 rfl) ?_
    refine Eq.trans (s_iconst f_134_62) ?_
    refine Eq.trans (s_iloadn f_134_63 rfl) ?_
    refine Eq.trans (s_ishl f_134_64) ?_
    refine Eq.trans (s_ior f_134_65) ?_
    refine Eq.trans (s_istoren f_134_66 rfl) ?_
    refine Eq.trans (s_iinc f_134_67 rfl rfl) ?_
    refine Eq.trans (s_goto 37 f_134_70 (by decide)) ?_
    rfl
theorem en_134 {d : Nat} (v1 : Int) (M : ZM) : E (d + 1) 134 [zR 0, zI v1] M = Q d 134 0 [zR 0, zI v1, zU, zU] [] M := e_in (Nat.le_of_ble_eq_true rfl)
-- DungeonBuilder.missing(I)I
theorem q_135_0 {d : Nat} (v1 : Int) (M : ZM) : Q d 135 0 [zR 0, zI v1, zU, zU] [] M = Cb (E d 15 [zR 1, zI v1] M) (fun v h => zrun (zevl d) 135 8 [zR 0, zI v1, zU, zU] (v.toList ++ []) h) := by
  refine Eq.trans (s_aloadn f_135_0 rfl) ?_
  refine Eq.trans (s_getR f_135_1 g_135_12 (by decide) kn_0 rf_0_0) ?_
  refine Eq.trans (s_iloadn f_135_4 rfl) ?_
  exact s_call [zR 1, zI v1] [] f_135_5 rfl c_135_181 rfl rfl (Nat.le_of_ble_eq_true rfl) (by show (zkn SH 1 == zown 15) = true; rw [show zkn SH 1 = 1 from kn_1]; rfl)
theorem q_135_8 {d : Nat} (v1 s0 : Int) (M : ZM) : Q d 135 8 [zR 0, zI v1, zU, zU] [zI s0] M = if s0 ≠ 0 then (Cb (E d 76 [zR 1, zI 0, zI 0] M) (fun v h => zrun (zevl d) 135 23 [zR 0, zI v1, zU, zU] (v.toList ++ []) h)) else (Rt (some (zI (-101))) M) := by
  refine Eq.trans (s_if (P := s0 ≠ 0) 14 f_135_8 (by decide) rfl) (ite_cg (fun h1 => ?_) (fun h1 => ?_))
  · refine Eq.trans (s_aloadn f_135_14 rfl) ?_
    refine Eq.trans (s_getR f_135_15 g_135_12 (by decide) kn_0 rf_0_0) ?_
    refine Eq.trans (s_iconst f_135_18) ?_
    refine Eq.trans (s_iconst f_135_19) ?_
    exact s_call [zR 1, zI 0, zI 0] [] f_135_20 rfl c_135_270 rfl rfl (Nat.le_of_ble_eq_true rfl) rfl
  · refine Eq.trans (s_bipush f_135_11) ?_
    exact s_iret f_135_13 t_135
theorem q_135_23 {d : Nat} (v1 s0 : Int) (M : ZM) : Q d 135 23 [zR 0, zI v1, zU, zU] [zI s0] M = Cb (E d 149 [zI s0, zI v1] M) (fun v h => zrun (zevl d) 135 27 [zR 0, zI v1, zU, zU] (v.toList ++ []) h) := by
  refine Eq.trans (s_iloadn f_135_23 rfl) ?_
  exact s_call [zI s0, zI v1] [] f_135_24 rfl c_135_277 rfl rfl (Nat.le_of_ble_eq_true rfl) rfl
theorem q_135_27 {d : Nat} (v1 s0 : Int) (M : ZM) : Q d 135 27 [zR 0, zI v1, zU, zU] [zI s0] M = if s0 = 0 then (Q d 135 37 [zR 0, zI v1, zI 0, zI 0] [] M) else (Rt (some (zI (-104))) M) := by
  refine Eq.trans (s_if (P := s0 = 0) 33 f_135_27 (by decide) rfl) (ite_cg (fun h1 => ?_) (fun h1 => ?_))
  · refine Eq.trans (s_iconst f_135_33) ?_
    refine Eq.trans (s_istoren f_135_34 rfl) ?_
    refine Eq.trans (s_iconst f_135_35) ?_
    refine Eq.trans (s_istoren f_135_36 rfl) ?_
    rfl
  · refine Eq.trans (s_bipush f_135_30) ?_
    exact s_iret f_135_32 t_135
theorem q_135_37 {d : Nat} (v1 v2 v3 : Int) (M : ZM) : Q d 135 37 [zR 0, zI v1, zI v2, zI v3] [] M = if 6 ≤ v3 then (Rt (some (zI v2)) M) else (Cb (E d 76 [zR 1, zI 0, zI (zshl 1 v3)] M) (fun v h => zrun (zevl d) 135 54 [zR 0, zI v1, zI v2, zI v3] (v.toList ++ []) h)) := by
  refine Eq.trans (s_iloadn f_135_37 rfl) ?_
  refine Eq.trans (s_bipush f_135_38) ?_
  refine Eq.trans (s_icmp (P := 6 ≤ v3) 73 f_135_40 (by decide) rfl) (ite_cg (fun h1 => ?_) (fun h1 => ?_))
  · refine Eq.trans (s_iloadn f_135_73 rfl) ?_
    exact s_iret f_135_74 t_135
  · refine Eq.trans (s_aloadn f_135_43 rfl) ?_
    refine Eq.trans (s_getR f_135_44 g_135_12 (by decide) kn_0 rf_0_0) ?_
    refine Eq.trans (s_iconst f_135_47) ?_
    refine Eq.trans (s_iconst f_135_48) ?_
    refine Eq.trans (s_iloadn f_135_49 rfl) ?_
    refine Eq.trans (s_ishl f_135_50) ?_
    exact s_call [zR 1, zI 0, zI (zshl 1 v3)] [] f_135_51 rfl c_135_270 rfl rfl (Nat.le_of_ble_eq_true rfl) rfl
theorem q_135_54 {d : Nat} (v1 v2 v3 s0 : Int) (M : ZM) : Q d 135 54 [zR 0, zI v1, zI v2, zI v3] [zI s0] M = Cb (E d 149 [zI s0, zI v1] M) (fun v h => zrun (zevl d) 135 58 [zR 0, zI v1, zI v2, zI v3] (v.toList ++ []) h) := by
  refine Eq.trans (s_iloadn f_135_54 rfl) ?_
  exact s_call [zI s0, zI v1] [] f_135_55 rfl c_135_277 rfl rfl (Nat.le_of_ble_eq_true rfl) rfl
theorem q_135_58 {d : Nat} (v1 v2 v3 s0 : Int) (M : ZM) : Q d 135 58 [zR 0, zI v1, zI v2, zI v3] [zI s0] M = if s0 = 0 then (Q d 135 37 [zR 0, zI v1, zI v2, zI (zw (v3 + 1))] [] M) else (Q d 135 37 [zR 0, zI v1, zI (zor v2 (zshl 1 v3)), zI (zw (v3 + 1))] [] M) := by
  refine Eq.trans (s_if (P := s0 = 0) 67 f_135_58 (by decide) rfl) (ite_cg (fun h1 => ?_) (fun h1 => ?_))
  · refine Eq.trans (s_iinc f_135_67 rfl rfl) ?_
    refine Eq.trans (s_goto 37 f_135_70 (by decide)) ?_
    rfl
  · refine Eq.trans (s_iloadn f_135_61 rfl) ?_
    refine Eq.trans (s_iconst f_135_62) ?_
    refine Eq.trans (s_iloadn f_135_63 rfl) ?_
    refine Eq.trans (s_ishl f_135_64) ?_
    refine Eq.trans (s_ior f_135_65) ?_
    refine Eq.trans (s_istoren f_135_66 rfl) ?_
    refine Eq.trans (s_iinc f_135_67 rfl rfl) ?_
    refine Eq.trans (s_goto 37 f_135_70 (by decide)) ?_
    rfl
theorem en_135 {d : Nat} (v1 : Int) (M : ZM) : E (d + 1) 135 [zR 0, zI v1] M = Q d 135 0 [zR 0, zI v1, zU, zU] [] M := e_in (Nat.le_of_ble_eq_true rfl)
-- DungeonBuilder.walkLength(I)I
theorem q_136_0 {d : Nat} (v1 : Int) (M : ZM) : Q d 136 0 [zR 0, zI v1, zU] [] M = Cb (E d 15 [zR 1, zI v1] M) (fun v h => zrun (zevl d) 136 8 [zR 0, zI v1, zU] (v.toList ++ []) h) := by
  refine Eq.trans (s_aloadn f_136_0 rfl) ?_
  refine Eq.trans (s_getR f_136_1 g_136_12 (by decide) kn_0 rf_0_0) ?_
  refine Eq.trans (s_iloadn f_136_4 rfl) ?_
  exact s_call [zR 1, zI v1] [] f_136_5 rfl c_136_181 rfl rfl (Nat.le_of_ble_eq_true rfl) (by show (zkn SH 1 == zown 15) = true; rw [show zkn SH 1 = 1 from kn_1]; rfl)
theorem q_136_8 {d : Nat} (v1 s0 : Int) (M : ZM) : Q d 136 8 [zR 0, zI v1, zU] [zI s0] M = if s0 ≠ 0 then (Cb (E d 98 [zR 125, zR 1] M) (fun v h => zrun (zevl d) 136 25 [zR 0, zI v1, zU] (v.toList ++ []) h)) else (Rt (some (zI (-101))) M) := by
  refine Eq.trans (s_if (P := s0 ≠ 0) 14 f_136_8 (by decide) rfl) (ite_cg (fun h1 => ?_) (fun h1 => ?_))
  · refine Eq.trans (s_aloadn f_136_14 rfl) ?_
    refine Eq.trans (s_getR f_136_15 g_136_57 (by decide) kn_0 rf_0_7) ?_
    refine Eq.trans (s_aloadn f_136_18 rfl) ?_
    refine Eq.trans (s_getR f_136_19 g_136_12 (by decide) kn_0 rf_0_0) ?_
    exact s_call [zR 125, zR 1] [] f_136_22 rfl c_136_281 rfl rfl (Nat.le_of_ble_eq_true rfl) (by show (zkn SH 125 == zown 98) = true; rw [show zkn SH 125 = 8 from kn_125]; rfl)
  · refine Eq.trans (s_bipush f_136_11) ?_
    exact s_iret f_136_13 t_136
theorem q_136_25 {d : Nat} (v1 : Int) (M : ZM) : Q d 136 25 [zR 0, zI v1, zU] [] M = Cb (E d 101 [zR 125, zI v1] M) (fun v h => zrun (zevl d) 136 33 [zR 0, zI v1, zU] (v.toList ++ []) h) := by
  refine Eq.trans (s_aloadn f_136_25 rfl) ?_
  refine Eq.trans (s_getR f_136_26 g_136_57 (by decide) kn_0 rf_0_7) ?_
  refine Eq.trans (s_iloadn f_136_29 rfl) ?_
  exact s_call [zR 125, zI v1] [] f_136_30 rfl c_136_284 rfl rfl (Nat.le_of_ble_eq_true rfl) (by show (zkn SH 125 == zown 101) = true; rw [show zkn SH 125 = 8 from kn_125]; rfl)
theorem q_136_33 {d : Nat} (v1 s0 : Int) (M : ZM) : Q d 136 33 [zR 0, zI v1, zU] [zI s0] M = if s0 ≠ (-1) then (Rt (some (zI s0)) M) else (Rt (some (zI (-104))) M) := by
  refine Eq.trans (s_istoren f_136_33 rfl) ?_
  refine Eq.trans (s_iloadn f_136_34 rfl) ?_
  refine Eq.trans (s_iconst f_136_35) ?_
  refine Eq.trans (s_icmp (P := s0 ≠ (-1)) 44 f_136_36 (by decide) rfl) (ite_cg (fun h1 => ?_) (fun h1 => ?_))
  · refine Eq.trans (s_iloadn f_136_44 rfl) ?_
    exact s_iret f_136_45 t_136
  · refine Eq.trans (s_bipush f_136_39) ?_
    refine Eq.trans (s_goto 45 f_136_41 (by decide)) ?_
    exact s_iret f_136_45 t_136
theorem en_136 {d : Nat} (v1 : Int) (M : ZM) : E (d + 1) 136 [zR 0, zI v1] M = Q d 136 0 [zR 0, zI v1, zU] [] M := e_in (Nat.le_of_ble_eq_true rfl)
-- DungeonBuilder.walkRoom(II)I
theorem q_137_0 {d : Nat} (v1 v2 : Int) (M : ZM) : Q d 137 0 [zR 0, zI v1, zI v2, zU] [] M = Cb (E d 15 [zR 1, zI v1] M) (fun v h => zrun (zevl d) 137 8 [zR 0, zI v1, zI v2, zU] (v.toList ++ []) h) := by
  refine Eq.trans (s_aloadn f_137_0 rfl) ?_
  refine Eq.trans (s_getR f_137_1 g_137_12 (by decide) kn_0 rf_0_0) ?_
  refine Eq.trans (s_iloadn f_137_4 rfl) ?_
  exact s_call [zR 1, zI v1] [] f_137_5 rfl c_137_181 rfl rfl (Nat.le_of_ble_eq_true rfl) (by show (zkn SH 1 == zown 15) = true; rw [show zkn SH 1 = 1 from kn_1]; rfl)
theorem q_137_8 {d : Nat} (v1 v2 s0 : Int) (M : ZM) : Q d 137 8 [zR 0, zI v1, zI v2, zU] [zI s0] M = if s0 ≠ 0 then (Cb (E d 98 [zR 125, zR 1] M) (fun v h => zrun (zevl d) 137 25 [zR 0, zI v1, zI v2, zU] (v.toList ++ []) h)) else (Rt (some (zI (-101))) M) := by
  refine Eq.trans (s_if (P := s0 ≠ 0) 14 f_137_8 (by decide) rfl) (ite_cg (fun h1 => ?_) (fun h1 => ?_))
  · refine Eq.trans (s_aloadn f_137_14 rfl) ?_
    refine Eq.trans (s_getR f_137_15 g_137_57 (by decide) kn_0 rf_0_7) ?_
    refine Eq.trans (s_aloadn f_137_18 rfl) ?_
    refine Eq.trans (s_getR f_137_19 g_137_12 (by decide) kn_0 rf_0_0) ?_
    exact s_call [zR 125, zR 1] [] f_137_22 rfl c_137_281 rfl rfl (Nat.le_of_ble_eq_true rfl) (by show (zkn SH 125 == zown 98) = true; rw [show zkn SH 125 = 8 from kn_125]; rfl)
  · refine Eq.trans (s_bipush f_137_11) ?_
    exact s_iret f_137_13 t_137
theorem q_137_25 {d : Nat} (v1 v2 : Int) (M : ZM) : Q d 137 25 [zR 0, zI v1, zI v2, zU] [] M = Cb (E d 101 [zR 125, zI v1] M) (fun v h => zrun (zevl d) 137 33 [zR 0, zI v1, zI v2, zU] (v.toList ++ []) h) := by
  refine Eq.trans (s_aloadn f_137_25 rfl) ?_
  refine Eq.trans (s_getR f_137_26 g_137_57 (by decide) kn_0 rf_0_7) ?_
  refine Eq.trans (s_iloadn f_137_29 rfl) ?_
  exact s_call [zR 125, zI v1] [] f_137_30 rfl c_137_284 rfl rfl (Nat.le_of_ble_eq_true rfl) (by show (zkn SH 125 == zown 101) = true; rw [show zkn SH 125 = 8 from kn_125]; rfl)
theorem q_137_33 {d : Nat} (v1 v2 s0 : Int) (M : ZM) : Q d 137 33 [zR 0, zI v1, zI v2, zU] [zI s0] M = if s0 ≠ (-1) then (if v2 < 0 then (Q d 137 65 [zR 0, zI v1, zI v2, zI s0] [zI (-102)] M) else (if v2 ≤ s0 then (Cb (E d 102 [zR 125, zI v1, zI v2] M) (fun v h => zrun (zevl d) 137 65 [zR 0, zI v1, zI v2, zI s0] (v.toList ++ []) h)) else (Q d 137 65 [zR 0, zI v1, zI v2, zI s0] [zI (-102)] M))) else (Rt (some (zI (-104))) M) := by
  refine Eq.trans (s_istoren f_137_33 rfl) ?_
  refine Eq.trans (s_iloadn f_137_34 rfl) ?_
  refine Eq.trans (s_iconst f_137_35) ?_
  refine Eq.trans (s_icmp (P := s0 ≠ (-1)) 42 f_137_36 (by decide) rfl) (ite_cg (fun h1 => ?_) (fun h1 => ?_))
  · refine Eq.trans (s_iloadn f_137_42 rfl) ?_
    refine Eq.trans (s_if (P := v2 < 0) 51 f_137_43 (by decide) rfl) (ite_cg (fun h2 => ?_) (fun h2 => ?_))
    · refine Eq.trans (s_bipush f_137_51) ?_
      refine Eq.trans (s_goto 65 f_137_53 (by decide)) ?_
      rfl
    · refine Eq.trans (s_iloadn f_137_46 rfl) ?_
      refine Eq.trans (s_iloadn f_137_47 rfl) ?_
      refine Eq.trans (s_icmp (P := v2 ≤ s0) 56 f_137_48 (by decide) rfl) (ite_cg (fun h3 => ?_) (fun h3 => ?_))
      · refine Eq.trans (s_aloadn f_137_56 rfl) ?_
        refine Eq.trans (s_getR f_137_57 g_137_57 (by decide) kn_0 rf_0_7) ?_
        refine Eq.trans (s_iloadn f_137_60 rfl) ?_
        refine Eq.trans (s_iloadn f_137_61 rfl) ?_
        exact s_call [zR 125, zI v1, zI v2] [] f_137_62 rfl c_137_287 rfl rfl (Nat.le_of_ble_eq_true rfl) (by show (zkn SH 125 == zown 102) = true; rw [show zkn SH 125 = 8 from kn_125]; rfl)
      · refine Eq.trans (s_bipush f_137_51) ?_
        refine Eq.trans (s_goto 65 f_137_53 (by decide)) ?_
        rfl
  · refine Eq.trans (s_bipush f_137_39) ?_
    exact s_iret f_137_41 t_137
theorem q_137_65 {d : Nat} (v1 v2 v3 s0 : Int) (M : ZM) : Q d 137 65 [zR 0, zI v1, zI v2, zI v3] [zI s0] M = Rt (some (zI s0)) M := by
  exact s_iret f_137_65 t_137
theorem en_137 {d : Nat} (v1 v2 : Int) (M : ZM) : E (d + 1) 137 [zR 0, zI v1, zI v2] M = Q d 137 0 [zR 0, zI v1, zI v2, zU] [] M := e_in (Nat.le_of_ble_eq_true rfl)
-- DungeonBuilder.criticalLength()I
theorem q_138_0 {d : Nat} (M : ZM) : Q d 138 0 [zR 0, zU, zU] [] M = if (M 1 8) ≠ 0 then (Cb (E d 98 [zR 125, zR 1] M) (fun v h => zrun (zevl d) 138 24 [zR 0, zU, zU] (v.toList ++ []) h)) else (Rt (some (zI (-104))) M) := by
  refine Eq.trans (s_aloadn f_138_0 rfl) ?_
  refine Eq.trans (s_getR f_138_1 g_138_12 (by decide) kn_0 rf_0_0) ?_
  refine Eq.trans (s_getI f_138_4 g_138_110 (by decide) kn_1) ?_
  refine Eq.trans (s_if (P := (M 1 8) ≠ 0) 13 f_138_7 (by decide) rfl) (ite_cg (fun h1 => ?_) (fun h1 => ?_))
  · refine Eq.trans (s_aloadn f_138_13 rfl) ?_
    refine Eq.trans (s_getR f_138_14 g_138_57 (by decide) kn_0 rf_0_7) ?_
    refine Eq.trans (s_aloadn f_138_17 rfl) ?_
    refine Eq.trans (s_getR f_138_18 g_138_12 (by decide) kn_0 rf_0_0) ?_
    exact s_call [zR 125, zR 1] [] f_138_21 rfl c_138_281 rfl rfl (Nat.le_of_ble_eq_true rfl) (by show (zkn SH 125 == zown 98) = true; rw [show zkn SH 125 = 8 from kn_125]; rfl)
  · refine Eq.trans (s_bipush f_138_10) ?_
    exact s_iret f_138_12 t_138
theorem q_138_24 {d : Nat} (M : ZM) : Q d 138 24 [zR 0, zU, zU] [] M = Q d 138 28 [zR 0, zI 0, zI 0] [] M := by
  refine Eq.trans (s_iconst f_138_24) ?_
  refine Eq.trans (s_istoren f_138_25 rfl) ?_
  refine Eq.trans (s_iconst f_138_26) ?_
  refine Eq.trans (s_istoren f_138_27 rfl) ?_
  rfl
theorem q_138_28 {d : Nat} (v1 v2 : Int) (M : ZM) : Q d 138 28 [zR 0, zI v1, zI v2] [] M = if (M 1 8) ≤ v2 then (Rt (some (zI v1)) M) else (Cb (E d 101 [zR 125, zI v2] M) (fun v h => zrun (zevl d) 138 48 [zR 0, zI v1, zI v2] (v.toList ++ [zI v1]) h)) := by
  refine Eq.trans (s_iloadn f_138_28 rfl) ?_
  refine Eq.trans (s_aloadn f_138_29 rfl) ?_
  refine Eq.trans (s_getR f_138_30 g_138_12 (by decide) kn_0 rf_0_0) ?_
  refine Eq.trans (s_getI f_138_33 g_138_110 (by decide) kn_1) ?_
  refine Eq.trans (s_icmp (P := (M 1 8) ≤ v2) 58 f_138_36 (by decide) rfl) (ite_cg (fun h1 => ?_) (fun h1 => ?_))
  · refine Eq.trans (s_iloadn f_138_58 rfl) ?_
    exact s_iret f_138_59 t_138
  · refine Eq.trans (s_iloadn f_138_39 rfl) ?_
    refine Eq.trans (s_aloadn f_138_40 rfl) ?_
    refine Eq.trans (s_getR f_138_41 g_138_57 (by decide) kn_0 rf_0_7) ?_
    refine Eq.trans (s_iloadn f_138_44 rfl) ?_
    exact s_call [zR 125, zI v2] [zI v1] f_138_45 rfl c_138_284 rfl rfl (Nat.le_of_ble_eq_true rfl) (by show (zkn SH 125 == zown 101) = true; rw [show zkn SH 125 = 8 from kn_125]; rfl)
theorem q_138_48 {d : Nat} (v1 v2 s0 s1 : Int) (M : ZM) : Q d 138 48 [zR 0, zI v1, zI v2] [zI s1, zI s0] M = Q d 138 28 [zR 0, zI (if s0 < s1 then s1 else s0), zI (zw (v2 + 1))] [] M := by
  refine Eq.trans (s_max f_138_48 m_138_290 (Nat.le_of_ble_eq_true rfl)) ?_
  refine Eq.trans (s_istoren f_138_51 rfl) ?_
  refine Eq.trans (s_iinc f_138_52 rfl rfl) ?_
  refine Eq.trans (s_goto 28 f_138_55 (by decide)) ?_
  rfl
theorem en_138 {d : Nat} (M : ZM) : E (d + 1) 138 [zR 0] M = Q d 138 0 [zR 0, zU, zU] [] M := e_in (Nat.le_of_ble_eq_true rfl)
-- DungeonBuilder.tension(I)I
theorem q_139_0 {d : Nat} (v1 : Int) (M : ZM) : Q d 139 0 [zR 0, zI v1] [] M = Cb (E d 43 [zR 120, zR 1] M) (fun v h => zrun (zevl d) 139 11 [zR 0, zI v1] (v.toList ++ []) h) := by
  refine Eq.trans (s_aloadn f_139_0 rfl) ?_
  refine Eq.trans (s_getR f_139_1 g_139_50 (by decide) kn_0 rf_0_6) ?_
  refine Eq.trans (s_aloadn f_139_4 rfl) ?_
  refine Eq.trans (s_getR f_139_5 g_139_12 (by decide) kn_0 rf_0_0) ?_
  exact s_call [zR 120, zR 1] [] f_139_8 rfl c_139_249 rfl rfl (Nat.le_of_ble_eq_true rfl) (by show (zkn SH 120 == zown 43) = true; rw [show zkn SH 120 = 2 from kn_120]; rfl)
theorem q_139_11 {d : Nat} (v1 : Int) (M : ZM) : Q d 139 11 [zR 0, zI v1] [] M = if v1 < 1 then (Rt (some (zI (-101))) M) else (Cb (E d 47 [zR 120, zI v1] M) (fun v h => zrun (zevl d) 139 24 [zR 0, zI v1] (v.toList ++ []) h)) := by
  refine Eq.trans (s_iloadn f_139_11 rfl) ?_
  refine Eq.trans (s_iconst f_139_12) ?_
  refine Eq.trans (s_icmp (P := v1 < 1) 27 f_139_13 (by decide) rfl) (ite_cg (fun h1 => ?_) (fun h1 => ?_))
  · refine Eq.trans (s_bipush f_139_27) ?_
    exact s_iret f_139_29 t_139
  · refine Eq.trans (s_aloadn f_139_16 rfl) ?_
    refine Eq.trans (s_getR f_139_17 g_139_50 (by decide) kn_0 rf_0_6) ?_
    refine Eq.trans (s_iloadn f_139_20 rfl) ?_
    exact s_call [zR 120, zI v1] [] f_139_21 rfl c_139_261 rfl rfl (Nat.le_of_ble_eq_true rfl) (by show (zkn SH 120 == zown 47) = true; rw [show zkn SH 120 = 2 from kn_120]; rfl)
theorem q_139_24 {d : Nat} (v1 s0 : Int) (M : ZM) : Q d 139 24 [zR 0, zI v1] [zI s0] M = if s0 ≠ 0 then (Cb (E d 49 [zR 120, zI v1] M) (fun v h => zrun (zevl d) 139 38 [zR 0, zI v1] (v.toList ++ []) h)) else (Rt (some (zI (-101))) M) := by
  refine Eq.trans (s_if (P := s0 ≠ 0) 30 f_139_24 (by decide) rfl) (ite_cg (fun h1 => ?_) (fun h1 => ?_))
  · refine Eq.trans (s_aloadn f_139_30 rfl) ?_
    refine Eq.trans (s_getR f_139_31 g_139_50 (by decide) kn_0 rf_0_6) ?_
    refine Eq.trans (s_iloadn f_139_34 rfl) ?_
    exact s_call [zR 120, zI v1] [] f_139_35 rfl c_139_295 rfl rfl (Nat.le_of_ble_eq_true rfl) (by show (zkn SH 120 == zown 49) = true; rw [show zkn SH 120 = 2 from kn_120]; rfl)
  · refine Eq.trans (s_bipush f_139_27) ?_
    exact s_iret f_139_29 t_139
theorem q_139_38 {d : Nat} (v1 s0 : Int) (M : ZM) : Q d 139 38 [zR 0, zI v1] [zI s0] M = Rt (some (zI (zw (s0 + 1000)))) M := by
  refine Eq.trans (s_sipush f_139_38) ?_
  refine Eq.trans (s_iadd f_139_41) ?_
  exact s_iret f_139_42 t_139
theorem en_139 {d : Nat} (v1 : Int) (M : ZM) : E (d + 1) 139 [zR 0, zI v1] M = Q d 139 0 [zR 0, zI v1] [] M := e_in (Nat.le_of_ble_eq_true rfl)
-- DungeonBuilder.drops()I
theorem q_140_0 {d : Nat} (M : ZM) : Q d 140 0 [zR 0, zU, zU] [] M = Cb (E d 43 [zR 120, zR 1] M) (fun v h => zrun (zevl d) 140 11 [zR 0, zU, zU] (v.toList ++ []) h) := by
  refine Eq.trans (s_aloadn f_140_0 rfl) ?_
  refine Eq.trans (s_getR f_140_1 g_140_50 (by decide) kn_0 rf_0_6) ?_
  refine Eq.trans (s_aloadn f_140_4 rfl) ?_
  refine Eq.trans (s_getR f_140_5 g_140_12 (by decide) kn_0 rf_0_0) ?_
  exact s_call [zR 120, zR 1] [] f_140_8 rfl c_140_249 rfl rfl (Nat.le_of_ble_eq_true rfl) (by show (zkn SH 120 == zown 43) = true; rw [show zkn SH 120 = 2 from kn_120]; rfl)
theorem q_140_11 {d : Nat} (M : ZM) : Q d 140 11 [zR 0, zU, zU] [] M = Q d 140 15 [zR 0, zI 0, zI 1] [] M := by
  refine Eq.trans (s_iconst f_140_11) ?_
  refine Eq.trans (s_istoren f_140_12 rfl) ?_
  refine Eq.trans (s_iconst f_140_13) ?_
  refine Eq.trans (s_istoren f_140_14 rfl) ?_
  rfl
theorem q_140_15 {d : Nat} (v1 v2 : Int) (M : ZM) : Q d 140 15 [zR 0, zI v1, zI v2] [] M = if (M 120 4) ≤ v2 then (Rt (some (zI v1)) M) else (Cb (E d 49 [zR 120, zI v2] M) (fun v h => zrun (zevl d) 140 34 [zR 0, zI v1, zI v2] (v.toList ++ []) h)) := by
  refine Eq.trans (s_iloadn f_140_15 rfl) ?_
  refine Eq.trans (s_aloadn f_140_16 rfl) ?_
  refine Eq.trans (s_getR f_140_17 g_140_50 (by decide) kn_0 rf_0_6) ?_
  refine Eq.trans (s_getI f_140_20 g_140_258 (by decide) kn_120) ?_
  refine Eq.trans (s_icmp (P := (M 120 4) ≤ v2) 46 f_140_23 (by decide) rfl) (ite_cg (fun h1 => ?_) (fun h1 => ?_))
  · refine Eq.trans (s_iloadn f_140_46 rfl) ?_
    exact s_iret f_140_47 t_140
  · refine Eq.trans (s_aloadn f_140_26 rfl) ?_
    refine Eq.trans (s_getR f_140_27 g_140_50 (by decide) kn_0 rf_0_6) ?_
    refine Eq.trans (s_iloadn f_140_30 rfl) ?_
    exact s_call [zR 120, zI v2] [] f_140_31 rfl c_140_295 rfl rfl (Nat.le_of_ble_eq_true rfl) (by show (zkn SH 120 == zown 49) = true; rw [show zkn SH 120 = 2 from kn_120]; rfl)
theorem q_140_34 {d : Nat} (v1 v2 s0 : Int) (M : ZM) : Q d 140 34 [zR 0, zI v1, zI v2] [zI s0] M = if 0 ≤ s0 then (Q d 140 15 [zR 0, zI v1, zI (zw (v2 + 1))] [] M) else (Q d 140 15 [zR 0, zI (zw (v1 + 1)), zI (zw (v2 + 1))] [] M) := by
  refine Eq.trans (s_if (P := 0 ≤ s0) 40 f_140_34 (by decide) rfl) (ite_cg (fun h1 => ?_) (fun h1 => ?_))
  · refine Eq.trans (s_iinc f_140_40 rfl rfl) ?_
    refine Eq.trans (s_goto 15 f_140_43 (by decide)) ?_
    rfl
  · refine Eq.trans (s_iinc f_140_37 rfl rfl) ?_
    refine Eq.trans (s_iinc f_140_40 rfl rfl) ?_
    refine Eq.trans (s_goto 15 f_140_43 (by decide)) ?_
    rfl
theorem en_140 {d : Nat} (M : ZM) : E (d + 1) 140 [zR 0] M = Q d 140 0 [zR 0, zU, zU] [] M := e_in (Nat.le_of_ble_eq_true rfl)
-- DungeonBuilder.backtracking()I
theorem q_141_0 {d : Nat} (M : ZM) : Q d 141 0 [zR 0] [] M = Cb (E d 43 [zR 120, zR 1] M) (fun v h => zrun (zevl d) 141 11 [zR 0] (v.toList ++ []) h) := by
  refine Eq.trans (s_aloadn f_141_0 rfl) ?_
  refine Eq.trans (s_getR f_141_1 g_141_50 (by decide) kn_0 rf_0_6) ?_
  refine Eq.trans (s_aloadn f_141_4 rfl) ?_
  refine Eq.trans (s_getR f_141_5 g_141_12 (by decide) kn_0 rf_0_0) ?_
  exact s_call [zR 120, zR 1] [] f_141_8 rfl c_141_249 rfl rfl (Nat.le_of_ble_eq_true rfl) (by show (zkn SH 120 == zown 43) = true; rw [show zkn SH 120 = 2 from kn_120]; rfl)
theorem q_141_11 {d : Nat} (M : ZM) : Q d 141 11 [zR 0] [] M = Cb (E d 50 [zR 120, zR 1] M) (fun v h => zrun (zevl d) 141 22 [zR 0] (v.toList ++ []) h) := by
  refine Eq.trans (s_aloadn f_141_11 rfl) ?_
  refine Eq.trans (s_getR f_141_12 g_141_50 (by decide) kn_0 rf_0_6) ?_
  refine Eq.trans (s_aloadn f_141_15 rfl) ?_
  refine Eq.trans (s_getR f_141_16 g_141_12 (by decide) kn_0 rf_0_0) ?_
  exact s_call [zR 120, zR 1] [] f_141_19 rfl c_141_298 rfl rfl (Nat.le_of_ble_eq_true rfl) (by show (zkn SH 120 == zown 50) = true; rw [show zkn SH 120 = 2 from kn_120]; rfl)
theorem q_141_22 {d : Nat} (s0 : Int) (M : ZM) : Q d 141 22 [zR 0] [zI s0] M = Rt (some (zI s0)) M := by
  exact s_iret f_141_22 t_141
theorem en_141 {d : Nat} (M : ZM) : E (d + 1) 141 [zR 0] M = Q d 141 0 [zR 0] [] M := e_in (Nat.le_of_ble_eq_true rfl)
-- DungeonBuilder.save()I
theorem q_143_0 {d : Nat} (M : ZM) : Q d 143 0 [zR 0] [] M = Cb (E d 11 [zR 10, zR 1] M) (fun v h => zrun (zevl d) 143 11 [zR 0] (v.toList ++ []) h) := by
  refine Eq.trans (s_aloadn f_143_0 rfl) ?_
  refine Eq.trans (s_getR f_143_1 g_143_16 (by decide) kn_0 rf_0_1) ?_
  refine Eq.trans (s_aloadn f_143_4 rfl) ?_
  refine Eq.trans (s_getR f_143_5 g_143_12 (by decide) kn_0 rf_0_0) ?_
  exact s_call [zR 10, zR 1] [] f_143_8 rfl c_143_309 rfl rfl (Nat.le_of_ble_eq_true rfl) (by show (zkn SH 10 == zown 11) = true; rw [show zkn SH 10 = 1 from kn_10]; rfl)
theorem q_143_11 {d : Nat} (M : ZM) : Q d 143 11 [zR 0] [] M = Rt (some (zI ((zwr M 0 9 1) 1 8))) (zwr M 0 9 1) := by
  refine Eq.trans (s_aloadn f_143_11 rfl) ?_
  refine Eq.trans (s_iconst f_143_12) ?_
  refine Eq.trans (s_putZ f_143_13 g_143_68 (by decide) kn_0 (by decide)) ?_
  refine Eq.trans (s_aloadn f_143_16 rfl) ?_
  refine Eq.trans (s_getR f_143_17 g_143_12 (by decide) kn_0 rf_0_0) ?_
  refine Eq.trans (s_getI f_143_20 g_143_110 (by decide) kn_1) ?_
  exact s_iret f_143_23 t_143
theorem en_143 {d : Nat} (M : ZM) : E (d + 1) 143 [zR 0] M = Q d 143 0 [zR 0] [] M := e_in (Nat.le_of_ble_eq_true rfl)
-- DungeonBuilder.restore()I
theorem q_144_0 {d : Nat} (M : ZM) : Q d 144 0 [zR 0] [] M = if (M 0 9) ≠ 0 then (Cb (E d 11 [zR 1, zR 10] M) (fun v h => zrun (zevl d) 144 21 [zR 0] (v.toList ++ []) h)) else (Rt (some (zI (-105))) M) := by
  refine Eq.trans (s_aloadn f_144_0 rfl) ?_
  refine Eq.trans (s_getI f_144_1 g_144_68 (by decide) kn_0) ?_
  refine Eq.trans (s_if (P := (M 0 9) ≠ 0) 10 f_144_4 (by decide) rfl) (ite_cg (fun h1 => ?_) (fun h1 => ?_))
  · refine Eq.trans (s_aloadn f_144_10 rfl) ?_
    refine Eq.trans (s_getR f_144_11 g_144_12 (by decide) kn_0 rf_0_0) ?_
    refine Eq.trans (s_aloadn f_144_14 rfl) ?_
    refine Eq.trans (s_getR f_144_15 g_144_16 (by decide) kn_0 rf_0_1) ?_
    exact s_call [zR 1, zR 10] [] f_144_18 rfl c_144_309 rfl rfl (Nat.le_of_ble_eq_true rfl) (by show (zkn SH 1 == zown 11) = true; rw [show zkn SH 1 = 1 from kn_1]; rfl)
  · refine Eq.trans (s_bipush f_144_7) ?_
    exact s_iret f_144_9 t_144
theorem q_144_21 {d : Nat} (M : ZM) : Q d 144 21 [zR 0] [] M = Cb (E d 69 [zR 19] M) (fun v h => zrun (zevl d) 144 28 [zR 0] (v.toList ++ []) h) := by
  refine Eq.trans (s_aloadn f_144_21 rfl) ?_
  refine Eq.trans (s_getR f_144_22 g_144_22 (by decide) kn_0 rf_0_2) ?_
  exact s_call [zR 19] [] f_144_25 rfl c_144_312 rfl rfl (Nat.le_of_ble_eq_true rfl) (by show (zkn SH 19 == zown 69) = true; rw [show zkn SH 19 = 4 from kn_19]; rfl)
theorem q_144_28 {d : Nat} (M : ZM) : Q d 144 28 [zR 0] [] M = Rt (some (zI (M 1 8))) M := by
  refine Eq.trans (s_aloadn f_144_28 rfl) ?_
  refine Eq.trans (s_getR f_144_29 g_144_12 (by decide) kn_0 rf_0_0) ?_
  refine Eq.trans (s_getI f_144_32 g_144_110 (by decide) kn_1) ?_
  exact s_iret f_144_35 t_144
theorem en_144 {d : Nat} (M : ZM) : E (d + 1) 144 [zR 0] M = Q d 144 0 [zR 0] [] M := e_in (Nat.le_of_ble_eq_true rfl)
-- DungeonBuilder.settled(I)I
theorem q_145_0 {d : Nat} (v1 : Int) (M : ZM) : Q d 145 0 [zR 0, zI v1] [] M = if v1 < 0 then (Q d 145 11 [zR 0, zI v1] [] M) else (Cb (E d 66 [zR 19] M) (fun v h => zrun (zevl d) 145 11 [zR 0, zI v1] (v.toList ++ []) h)) := by
  refine Eq.trans (s_iloadn f_145_0 rfl) ?_
  refine Eq.trans (s_if (P := v1 < 0) 11 f_145_1 (by decide) rfl) (ite_cg (fun h1 => ?_) (fun h1 => ?_))
  · rfl
  · refine Eq.trans (s_aloadn f_145_4 rfl) ?_
    refine Eq.trans (s_getR f_145_5 g_145_22 (by decide) kn_0 rf_0_2) ?_
    exact s_call [zR 19] [] f_145_8 rfl c_145_315 rfl rfl (Nat.le_of_ble_eq_true rfl) (by show (zkn SH 19 == zown 66) = true; rw [show zkn SH 19 = 4 from kn_19]; rfl)
theorem q_145_11 {d : Nat} (v1 : Int) (M : ZM) : Q d 145 11 [zR 0, zI v1] [] M = Rt (some (zI v1)) M := by
  refine Eq.trans (s_iloadn f_145_11 rfl) ?_
  exact s_iret f_145_12 t_145
theorem en_145 {d : Nat} (v1 : Int) (M : ZM) : E (d + 1) 145 [zR 0, zI v1] M = Q d 145 0 [zR 0, zI v1] [] M := e_in (Nat.le_of_ble_eq_true rfl)
-- DungeonBuilder.recolored(I)I
theorem q_146_0 {d : Nat} (v1 : Int) (M : ZM) : Q d 146 0 [zR 0, zI v1] [] M = if 0 ≤ v1 then (Cb (E d 66 [zR 19] M) (fun v h => zrun (zevl d) 146 17 [zR 0, zI v1] (v.toList ++ []) h)) else (if v1 ≠ (-104) then (Q d 146 17 [zR 0, zI v1] [] M) else (Cb (E d 66 [zR 19] M) (fun v h => zrun (zevl d) 146 17 [zR 0, zI v1] (v.toList ++ []) h))) := by
  refine Eq.trans (s_iloadn f_146_0 rfl) ?_
  refine Eq.trans (s_if (P := 0 ≤ v1) 10 f_146_1 (by decide) rfl) (ite_cg (fun h1 => ?_) (fun h1 => ?_))
  · refine Eq.trans (s_aloadn f_146_10 rfl) ?_
    refine Eq.trans (s_getR f_146_11 g_146_22 (by decide) kn_0 rf_0_2) ?_
    exact s_call [zR 19] [] f_146_14 rfl c_146_315 rfl rfl (Nat.le_of_ble_eq_true rfl) (by show (zkn SH 19 == zown 66) = true; rw [show zkn SH 19 = 4 from kn_19]; rfl)
  · refine Eq.trans (s_iloadn f_146_4 rfl) ?_
    refine Eq.trans (s_bipush f_146_5) ?_
    refine Eq.trans (s_icmp (P := v1 ≠ (-104)) 17 f_146_7 (by decide) rfl) (ite_cg (fun h2 => ?_) (fun h2 => ?_))
    · rfl
    · refine Eq.trans (s_aloadn f_146_10 rfl) ?_
      refine Eq.trans (s_getR f_146_11 g_146_22 (by decide) kn_0 rf_0_2) ?_
      exact s_call [zR 19] [] f_146_14 rfl c_146_315 rfl rfl (Nat.le_of_ble_eq_true rfl) (by show (zkn SH 19 == zown 66) = true; rw [show zkn SH 19 = 4 from kn_19]; rfl)
theorem q_146_17 {d : Nat} (v1 : Int) (M : ZM) : Q d 146 17 [zR 0, zI v1] [] M = Rt (some (zI v1)) M := by
  refine Eq.trans (s_iloadn f_146_17 rfl) ?_
  exact s_iret f_146_18 t_146
theorem en_146 {d : Nat} (v1 : Int) (M : ZM) : E (d + 1) 146 [zR 0, zI v1] M = Q d 146 0 [zR 0, zI v1] [] M := e_in (Nat.le_of_ble_eq_true rfl)
-- DungeonBuilder.colorOrNone(I)I
theorem q_147_0 {d : Nat} (v0 : Int) (M : ZM) : Q d 147 0 [zI v0] [] M = if v0 ≠ (-1) then (Rt (some (zI v0)) M) else (Rt (some (zI (-104))) M) := by
  refine Eq.trans (s_iloadn f_147_0 rfl) ?_
  refine Eq.trans (s_iconst f_147_1) ?_
  refine Eq.trans (s_icmp (P := v0 ≠ (-1)) 10 f_147_2 (by decide) rfl) (ite_cg (fun h1 => ?_) (fun h1 => ?_))
  · refine Eq.trans (s_iloadn f_147_10 rfl) ?_
    exact s_iret f_147_11 t_147
  · refine Eq.trans (s_bipush f_147_5) ?_
    refine Eq.trans (s_goto 11 f_147_7 (by decide)) ?_
    exact s_iret f_147_11 t_147
theorem en_147 {d : Nat} (v0 : Int) (M : ZM) : E (d + 1) 147 [zI v0] M = Q d 147 0 [zI v0] [] M := e_in (Nat.le_of_ble_eq_true rfl)
-- DungeonBuilder.isColorOrUnset(I)Z
theorem q_148_0 {d : Nat} (v0 : Int) (M : ZM) : Q d 148 0 [zI v0] [] M = if v0 < (-1) then (Rt (some (zI 0)) M) else (if 6 ≤ v0 then (Rt (some (zI 0)) M) else (Rt (some (zI 1)) M)) := by
  refine Eq.trans (s_iloadn f_148_0 rfl) ?_
  refine Eq.trans (s_iconst f_148_1) ?_
  refine Eq.trans (s_icmp (P := v0 < (-1)) 15 f_148_2 (by decide) rfl) (ite_cg (fun h1 => ?_) (fun h1 => ?_))
  · refine Eq.trans (s_iconst f_148_15) ?_
    exact s_zret f_148_16 t_148 (by decide)
  · refine Eq.trans (s_iloadn f_148_5 rfl) ?_
    refine Eq.trans (s_bipush f_148_6) ?_
    refine Eq.trans (s_icmp (P := 6 ≤ v0) 15 f_148_8 (by decide) rfl) (ite_cg (fun h2 => ?_) (fun h2 => ?_))
    · refine Eq.trans (s_iconst f_148_15) ?_
      exact s_zret f_148_16 t_148 (by decide)
    · refine Eq.trans (s_iconst f_148_11) ?_
      refine Eq.trans (s_goto 16 f_148_12 (by decide)) ?_
      exact s_zret f_148_16 t_148 (by decide)
theorem en_148 {d : Nat} (v0 : Int) (M : ZM) : E (d + 1) 148 [zI v0] M = Q d 148 0 [zI v0] [] M := e_in (Nat.le_of_ble_eq_true rfl)
-- DungeonBuilder.holds(II)Z
theorem q_149_0 {d : Nat} (v0 v1 : Int) (M : ZM) : Q d 149 0 [zI v0, zI v1] [] M = if (zand (zshr v0 v1) 1) = 0 then (Rt (some (zI 0)) M) else (Rt (some (zI 1)) M) := by
  refine Eq.trans (s_iloadn f_149_0 rfl) ?_
  refine Eq.trans (s_iloadn f_149_1 rfl) ?_
  refine Eq.trans (s_ishr f_149_2) ?_
  refine Eq.trans (s_iconst f_149_3) ?_
  refine Eq.trans (s_iand f_149_4) ?_
  refine Eq.trans (s_if (P := (zand (zshr v0 v1) 1) = 0) 12 f_149_5 (by decide) rfl) (ite_cg (fun h1 => ?_) (fun h1 => ?_))
  · refine Eq.trans (s_iconst f_149_12) ?_
    exact s_zret f_149_13 t_149 (by decide)
  · refine Eq.trans (s_iconst f_149_8) ?_
    refine Eq.trans (s_goto 13 f_149_9 (by decide)) ?_
    exact s_zret f_149_13 t_149 (by decide)
theorem en_149 {d : Nat} (v0 v1 : Int) (M : ZM) : E (d + 1) 149 [zI v0, zI v1] M = Q d 149 0 [zI v0, zI v1] [] M := e_in (Nat.le_of_ble_eq_true rfl)
-- DungeonBuilder.cellAt(II)I
theorem q_150_0 {d : Nat} (v0 v1 : Int) (M : ZM) : Q d 150 0 [zI v0, zI v1] [] M = if v0 < 0 then (Rt (some (zI (-1))) M) else (if 24 ≤ v0 then (Rt (some (zI (-1))) M) else (if v1 < 0 then (Rt (some (zI (-1))) M) else (if v1 < 16 then (Rt (some (zI (zw ((zw (v1 * 24)) + v0)))) M) else (Rt (some (zI (-1))) M)))) := by
  refine Eq.trans (s_iloadn f_150_0 rfl) ?_
  refine Eq.trans (s_if (P := v0 < 0) 20 f_150_1 (by decide) rfl) (ite_cg (fun h1 => ?_) (fun h1 => ?_))
  · refine Eq.trans (s_iconst f_150_20) ?_
    exact s_iret f_150_21 t_150
  · refine Eq.trans (s_iloadn f_150_4 rfl) ?_
    refine Eq.trans (s_bipush f_150_5) ?_
    refine Eq.trans (s_icmp (P := 24 ≤ v0) 20 f_150_7 (by decide) rfl) (ite_cg (fun h2 => ?_) (fun h2 => ?_))
    · refine Eq.trans (s_iconst f_150_20) ?_
      exact s_iret f_150_21 t_150
    · refine Eq.trans (s_iloadn f_150_10 rfl) ?_
      refine Eq.trans (s_if (P := v1 < 0) 20 f_150_11 (by decide) rfl) (ite_cg (fun h3 => ?_) (fun h3 => ?_))
      · refine Eq.trans (s_iconst f_150_20) ?_
        exact s_iret f_150_21 t_150
      · refine Eq.trans (s_iloadn f_150_14 rfl) ?_
        refine Eq.trans (s_bipush f_150_15) ?_
        refine Eq.trans (s_icmp (P := v1 < 16) 22 f_150_17 (by decide) rfl) (ite_cg (fun h4 => ?_) (fun h4 => ?_))
        · refine Eq.trans (s_iloadn f_150_22 rfl) ?_
          refine Eq.trans (s_bipush f_150_23) ?_
          refine Eq.trans (s_imul f_150_25) ?_
          refine Eq.trans (s_iloadn f_150_26 rfl) ?_
          refine Eq.trans (s_iadd f_150_27) ?_
          exact s_iret f_150_28 t_150
        · refine Eq.trans (s_iconst f_150_20) ?_
          exact s_iret f_150_21 t_150
theorem en_150 {d : Nat} (v0 v1 : Int) (M : ZM) : E (d + 1) 150 [zI v0, zI v1] M = Q d 150 0 [zI v0, zI v1] [] M := e_in (Nat.le_of_ble_eq_true rfl)
