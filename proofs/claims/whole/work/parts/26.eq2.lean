-- DungeonBuilderModel.in(III)Z
theorem q_153_0 {d : Nat} (v0 v1 v2 : Int) (M : ZM) : Q d 153 0 [zI v0, zI v1, zI v2] [] M = if v0 < v1 then (Rt (some (zI 0)) M) else (if v2 < v0 then (Rt (some (zI 0)) M) else (Rt (some (zI 1)) M)) := by
  refine Eq.trans (s_iloadn f_153_0 rfl) ?_
  refine Eq.trans (s_iloadn f_153_1 rfl) ?_
  refine Eq.trans (s_icmp (P := v0 < v1) 14 f_153_2 (by decide) rfl) (ite_cg (fun h1 => ?_) (fun h1 => ?_))
  · refine Eq.trans (s_iconst f_153_14) ?_
    exact s_zret f_153_15 t_153 (by decide)
  · refine Eq.trans (s_iloadn f_153_5 rfl) ?_
    refine Eq.trans (s_iloadn f_153_6 rfl) ?_
    refine Eq.trans (s_icmp (P := v2 < v0) 14 f_153_7 (by decide) rfl) (ite_cg (fun h2 => ?_) (fun h2 => ?_))
    · refine Eq.trans (s_iconst f_153_14) ?_
      exact s_zret f_153_15 t_153 (by decide)
    · refine Eq.trans (s_iconst f_153_10) ?_
      refine Eq.trans (s_goto 15 f_153_11 (by decide)) ?_
      exact s_zret f_153_15 t_153 (by decide)
theorem en_153 {d : Nat} (v0 v1 v2 : Int) (M : ZM) : E (d + 1) 153 [zI v0, zI v1, zI v2] M = Q d 153 0 [zI v0, zI v1, zI v2] [] M := e_in (Nat.le_of_ble_eq_true rfl)
-- DungeonBuilderModel.isRoom(I)Z
theorem q_154_0 {d : Nat} (v1 : Int) (M : ZM) : Q d 154 0 [zR 138, zI v1] [] M = Cb (E d 153 [zI v1, zI 0, zI (zw ((M 139 120) - 1))] M) (fun v h => zrun (zevl d) 154 14 [zR 138, zI v1] (v.toList ++ []) h) := by
  refine Eq.trans (s_iloadn f_154_0 rfl) ?_
  refine Eq.trans (s_iconst f_154_1) ?_
  refine Eq.trans (s_aloadn f_154_2 rfl) ?_
  refine Eq.trans (s_getR f_154_3 g_154_7 (by decide) kn_138 rf_138_0) ?_
  refine Eq.trans (s_bipush f_154_6) ?_
  refine Eq.trans (s_iald f_154_8 kn_139 ln_139) (Eq.trans (if_pos (by decide)) ?_)
  refine Eq.trans (s_iconst f_154_9) ?_
  refine Eq.trans (s_isub f_154_10) ?_
  exact s_call [zI v1, zI 0, zI (zw ((M 139 120) - 1))] [] f_154_11 rfl c_154_58 rfl rfl (Nat.le_of_ble_eq_true rfl) rfl
theorem q_154_14 {d : Nat} (v1 s0 : Int) (M : ZM) : Q d 154 14 [zR 138, zI v1] [zI s0] M = if s0 = 0 ∨ s0 = 1 then Rt (some (zI s0)) M else none := by
  exact s_zretg f_154_14 t_154
theorem en_154 {d : Nat} (v1 : Int) (M : ZM) : E (d + 1) 154 [zR 138, zI v1] M = Q d 154 0 [zR 138, zI v1] [] M := e_in (Nat.le_of_ble_eq_true rfl)
-- DungeonBuilderModel.isCorridor(I)Z
theorem q_155_0 {d : Nat} (v1 : Int) (M : ZM) : Q d 155 0 [zR 138, zI v1] [] M = Cb (E d 153 [zI v1, zI 0, zI (zw ((M 139 121) - 1))] M) (fun v h => zrun (zevl d) 155 14 [zR 138, zI v1] (v.toList ++ []) h) := by
  refine Eq.trans (s_iloadn f_155_0 rfl) ?_
  refine Eq.trans (s_iconst f_155_1) ?_
  refine Eq.trans (s_aloadn f_155_2 rfl) ?_
  refine Eq.trans (s_getR f_155_3 g_155_7 (by decide) kn_138 rf_138_0) ?_
  refine Eq.trans (s_bipush f_155_6) ?_
  refine Eq.trans (s_iald f_155_8 kn_139 ln_139) (Eq.trans (if_pos (by decide)) ?_)
  refine Eq.trans (s_iconst f_155_9) ?_
  refine Eq.trans (s_isub f_155_10) ?_
  exact s_call [zI v1, zI 0, zI (zw ((M 139 121) - 1))] [] f_155_11 rfl c_155_58 rfl rfl (Nat.le_of_ble_eq_true rfl) rfl
theorem q_155_14 {d : Nat} (v1 s0 : Int) (M : ZM) : Q d 155 14 [zR 138, zI v1] [zI s0] M = if s0 = 0 ∨ s0 = 1 then Rt (some (zI s0)) M else none := by
  exact s_zretg f_155_14 t_155
theorem en_155 {d : Nat} (v1 : Int) (M : ZM) : E (d + 1) 155 [zR 138, zI v1] M = Q d 155 0 [zR 138, zI v1] [] M := e_in (Nat.le_of_ble_eq_true rfl)
-- DungeonBuilderModel.of(II)I
theorem q_156_0 {d : Nat} (v1 v2 : Int) (M : ZM) : Q d 156 0 [zR 138, zI v1, zI v2] [] M = if 0 ≤ (zw ((zw (0 + (zw (5 * v1)))) + v2)) ∧ (zw ((zw (0 + (zw (5 * v1)))) + v2)) < 124 then Rt (some (zI (M 139 (zw ((zw (0 + (zw (5 * v1)))) + v2))))) M else none := by
  refine Eq.trans (s_aloadn f_156_0 rfl) ?_
  refine Eq.trans (s_getR f_156_1 g_156_7 (by decide) kn_138 rf_138_0) ?_
  refine Eq.trans (s_iconst f_156_4) ?_
  refine Eq.trans (s_iconst f_156_5) ?_
  refine Eq.trans (s_iloadn f_156_6 rfl) ?_
  refine Eq.trans (s_imul f_156_7) ?_
  refine Eq.trans (s_iadd f_156_8) ?_
  refine Eq.trans (s_iloadn f_156_9 rfl) ?_
  refine Eq.trans (s_iadd f_156_10) ?_
  refine Eq.trans (s_iald f_156_11 kn_139 ln_139) (gd_cg fun h1 => ?_)
  exact s_iret f_156_12 t_156
theorem en_156 {d : Nat} (v1 v2 : Int) (M : ZM) : E (d + 1) 156 [zR 138, zI v1, zI v2] M = Q d 156 0 [zR 138, zI v1, zI v2] [] M := e_in (Nat.le_of_ble_eq_true rfl)
-- DungeonBuilderModel.way(II)I
theorem q_157_0 {d : Nat} (v1 v2 : Int) (M : ZM) : Q d 157 0 [zR 138, zI v1, zI v2] [] M = if 0 ≤ (zw ((zw (60 + (zw (3 * v1)))) + v2)) ∧ (zw ((zw (60 + (zw (3 * v1)))) + v2)) < 124 then Rt (some (zI (M 139 (zw ((zw (60 + (zw (3 * v1)))) + v2))))) M else none := by
  refine Eq.trans (s_aloadn f_157_0 rfl) ?_
  refine Eq.trans (s_getR f_157_1 g_157_7 (by decide) kn_138 rf_138_0) ?_
  refine Eq.trans (s_bipush f_157_4) ?_
  refine Eq.trans (s_iconst f_157_6) ?_
  refine Eq.trans (s_iloadn f_157_7 rfl) ?_
  refine Eq.trans (s_imul f_157_8) ?_
  refine Eq.trans (s_iadd f_157_9) ?_
  refine Eq.trans (s_iloadn f_157_10 rfl) ?_
  refine Eq.trans (s_iadd f_157_11) ?_
  refine Eq.trans (s_iald f_157_12 kn_139 ln_139) (gd_cg fun h1 => ?_)
  exact s_iret f_157_13 t_157
theorem en_157 {d : Nat} (v1 v2 : Int) (M : ZM) : E (d + 1) 157 [zR 138, zI v1, zI v2] M = Q d 157 0 [zR 138, zI v1, zI v2] [] M := e_in (Nat.le_of_ble_eq_true rfl)
-- DungeonBuilderModel.columnOf(I)I
theorem q_158_0 {d : Nat} (v1 : Int) (M : ZM) : Q d 158 0 [zR 138, zI v1] [] M = Cb (E d 156 [zR 138, zI v1, zI 0] M) (fun v h => zrun (zevl d) 158 6 [zR 138, zI v1] (v.toList ++ []) h) := by
  refine Eq.trans (s_aloadn f_158_0 rfl) ?_
  refine Eq.trans (s_iloadn f_158_1 rfl) ?_
  refine Eq.trans (s_iconst f_158_2) ?_
  exact s_call [zR 138, zI v1, zI 0] [] f_158_3 rfl c_158_62 rfl rfl (Nat.le_of_ble_eq_true rfl) (by show (zkn SH 138 == zown 156) = true; rw [show zkn SH 138 = 10 from kn_138]; rfl)
theorem q_158_6 {d : Nat} (v1 s0 : Int) (M : ZM) : Q d 158 6 [zR 138, zI v1] [zI s0] M = Cb (E d 156 [zR 138, zI v1, zI 2] M) (fun v h => zrun (zevl d) 158 12 [zR 138, zI v1] (v.toList ++ [zI s0]) h) := by
  refine Eq.trans (s_aloadn f_158_6 rfl) ?_
  refine Eq.trans (s_iloadn f_158_7 rfl) ?_
  refine Eq.trans (s_iconst f_158_8) ?_
  exact s_call [zR 138, zI v1, zI 2] [zI s0] f_158_9 rfl c_158_62 rfl rfl (Nat.le_of_ble_eq_true rfl) (by show (zkn SH 138 == zown 156) = true; rw [show zkn SH 138 = 10 from kn_138]; rfl)
theorem q_158_12 {d : Nat} (v1 s0 s1 : Int) (M : ZM) : Q d 158 12 [zR 138, zI v1] [zI s1, zI s0] M = Rt (some (zI (zw (s0 + (zw ((s1).tdiv 2)))))) M := by
  refine Eq.trans (s_iconst f_158_12) ?_
  refine Eq.trans (s_idiv f_158_13) (Eq.trans (if_pos (by decide)) ?_)
  refine Eq.trans (s_iadd f_158_14) ?_
  exact s_iret f_158_15 t_158
theorem en_158 {d : Nat} (v1 : Int) (M : ZM) : E (d + 1) 158 [zR 138, zI v1] M = Q d 158 0 [zR 138, zI v1] [] M := e_in (Nat.le_of_ble_eq_true rfl)
-- DungeonBuilderModel.rowOf(I)I
theorem q_159_0 {d : Nat} (v1 : Int) (M : ZM) : Q d 159 0 [zR 138, zI v1] [] M = Cb (E d 156 [zR 138, zI v1, zI 1] M) (fun v h => zrun (zevl d) 159 6 [zR 138, zI v1] (v.toList ++ []) h) := by
  refine Eq.trans (s_aloadn f_159_0 rfl) ?_
  refine Eq.trans (s_iloadn f_159_1 rfl) ?_
  refine Eq.trans (s_iconst f_159_2) ?_
  exact s_call [zR 138, zI v1, zI 1] [] f_159_3 rfl c_159_62 rfl rfl (Nat.le_of_ble_eq_true rfl) (by show (zkn SH 138 == zown 156) = true; rw [show zkn SH 138 = 10 from kn_138]; rfl)
theorem q_159_6 {d : Nat} (v1 s0 : Int) (M : ZM) : Q d 159 6 [zR 138, zI v1] [zI s0] M = Cb (E d 156 [zR 138, zI v1, zI 3] M) (fun v h => zrun (zevl d) 159 12 [zR 138, zI v1] (v.toList ++ [zI s0]) h) := by
  refine Eq.trans (s_aloadn f_159_6 rfl) ?_
  refine Eq.trans (s_iloadn f_159_7 rfl) ?_
  refine Eq.trans (s_iconst f_159_8) ?_
  exact s_call [zR 138, zI v1, zI 3] [zI s0] f_159_9 rfl c_159_62 rfl rfl (Nat.le_of_ble_eq_true rfl) (by show (zkn SH 138 == zown 156) = true; rw [show zkn SH 138 = 10 from kn_138]; rfl)
theorem q_159_12 {d : Nat} (v1 s0 s1 : Int) (M : ZM) : Q d 159 12 [zR 138, zI v1] [zI s1, zI s0] M = Rt (some (zI (zw (s0 + (zw ((s1).tdiv 2)))))) M := by
  refine Eq.trans (s_iconst f_159_12) ?_
  refine Eq.trans (s_idiv f_159_13) (Eq.trans (if_pos (by decide)) ?_)
  refine Eq.trans (s_iadd f_159_14) ?_
  exact s_iret f_159_15 t_159
theorem en_159 {d : Nat} (v1 : Int) (M : ZM) : E (d + 1) 159 [zR 138, zI v1] M = Q d 159 0 [zR 138, zI v1] [] M := e_in (Nat.le_of_ble_eq_true rfl)
-- DungeonBuilderModel.off(II)I
theorem q_160_0 {d : Nat} (v0 v1 : Int) (M : ZM) : Q d 160 0 [zI v0, zI v1] [] M = if v1 ≤ v0 then (Rt (some (zI (zw (v0 - v1)))) M) else (Rt (some (zI (zw (v1 - v0)))) M) := by
  refine Eq.trans (s_iloadn f_160_0 rfl) ?_
  refine Eq.trans (s_iloadn f_160_1 rfl) ?_
  refine Eq.trans (s_icmp (P := v1 ≤ v0) 11 f_160_2 (by decide) rfl) (ite_cg (fun h1 => ?_) (fun h1 => ?_))
  · refine Eq.trans (s_iloadn f_160_11 rfl) ?_
    refine Eq.trans (s_iloadn f_160_12 rfl) ?_
    refine Eq.trans (s_isub f_160_13) ?_
    exact s_iret f_160_14 t_160
  · refine Eq.trans (s_iloadn f_160_5 rfl) ?_
    refine Eq.trans (s_iloadn f_160_6 rfl) ?_
    refine Eq.trans (s_isub f_160_7) ?_
    refine Eq.trans (s_goto 14 f_160_8 (by decide)) ?_
    exact s_iret f_160_14 t_160
theorem en_160 {d : Nat} (v0 v1 : Int) (M : ZM) : E (d + 1) 160 [zI v0, zI v1] M = Q d 160 0 [zI v0, zI v1] [] M := e_in (Nat.le_of_ble_eq_true rfl)
-- DungeonBuilderModel.distance(II)I
theorem q_161_0 {d : Nat} (v1 v2 : Int) (M : ZM) : Q d 161 0 [zR 138, zI v1, zI v2] [] M = Cb (E d 158 [zR 138, zI v1] M) (fun v h => zrun (zevl d) 161 5 [zR 138, zI v1, zI v2] (v.toList ++ []) h) := by
  refine Eq.trans (s_aloadn f_161_0 rfl) ?_
  refine Eq.trans (s_iloadn f_161_1 rfl) ?_
  exact s_call [zR 138, zI v1] [] f_161_2 rfl c_161_66 rfl rfl (Nat.le_of_ble_eq_true rfl) (by show (zkn SH 138 == zown 158) = true; rw [show zkn SH 138 = 10 from kn_138]; rfl)
theorem q_161_5 {d : Nat} (v1 v2 s0 : Int) (M : ZM) : Q d 161 5 [zR 138, zI v1, zI v2] [zI s0] M = Cb (E d 158 [zR 138, zI v2] M) (fun v h => zrun (zevl d) 161 10 [zR 138, zI v1, zI v2] (v.toList ++ [zI s0]) h) := by
  refine Eq.trans (s_aloadn f_161_5 rfl) ?_
  refine Eq.trans (s_iloadn f_161_6 rfl) ?_
  exact s_call [zR 138, zI v2] [zI s0] f_161_7 rfl c_161_66 rfl rfl (Nat.le_of_ble_eq_true rfl) (by show (zkn SH 138 == zown 158) = true; rw [show zkn SH 138 = 10 from kn_138]; rfl)
theorem q_161_10 {d : Nat} (v1 v2 s0 s1 : Int) (M : ZM) : Q d 161 10 [zR 138, zI v1, zI v2] [zI s1, zI s0] M = Cb (E d 160 [zI s0, zI s1] M) (fun v h => zrun (zevl d) 161 13 [zR 138, zI v1, zI v2] (v.toList ++ []) h) := by
  exact s_call [zI s0, zI s1] [] f_161_10 rfl c_161_70 rfl rfl (Nat.le_of_ble_eq_true rfl) rfl
theorem q_161_13 {d : Nat} (v1 v2 s0 : Int) (M : ZM) : Q d 161 13 [zR 138, zI v1, zI v2] [zI s0] M = Cb (E d 159 [zR 138, zI v1] M) (fun v h => zrun (zevl d) 161 18 [zR 138, zI v1, zI v2] (v.toList ++ [zI s0]) h) := by
  refine Eq.trans (s_aloadn f_161_13 rfl) ?_
  refine Eq.trans (s_iloadn f_161_14 rfl) ?_
  exact s_call [zR 138, zI v1] [zI s0] f_161_15 rfl c_161_73 rfl rfl (Nat.le_of_ble_eq_true rfl) (by show (zkn SH 138 == zown 159) = true; rw [show zkn SH 138 = 10 from kn_138]; rfl)
theorem q_161_18 {d : Nat} (v1 v2 s0 s1 : Int) (M : ZM) : Q d 161 18 [zR 138, zI v1, zI v2] [zI s1, zI s0] M = Cb (E d 159 [zR 138, zI v2] M) (fun v h => zrun (zevl d) 161 23 [zR 138, zI v1, zI v2] (v.toList ++ [zI s1, zI s0]) h) := by
  refine Eq.trans (s_aloadn f_161_18 rfl) ?_
  refine Eq.trans (s_iloadn f_161_19 rfl) ?_
  exact s_call [zR 138, zI v2] [zI s1, zI s0] f_161_20 rfl c_161_73 rfl rfl (Nat.le_of_ble_eq_true rfl) (by show (zkn SH 138 == zown 159) = true; rw [show zkn SH 138 = 10 from kn_138]; rfl)
theorem q_161_23 {d : Nat} (v1 v2 s0 s1 s2 : Int) (M : ZM) : Q d 161 23 [zR 138, zI v1, zI v2] [zI s2, zI s1, zI s0] M = Cb (E d 160 [zI s1, zI s2] M) (fun v h => zrun (zevl d) 161 26 [zR 138, zI v1, zI v2] (v.toList ++ [zI s0]) h) := by
  exact s_call [zI s1, zI s2] [zI s0] f_161_23 rfl c_161_70 rfl rfl (Nat.le_of_ble_eq_true rfl) rfl
theorem q_161_26 {d : Nat} (v1 v2 s0 s1 : Int) (M : ZM) : Q d 161 26 [zR 138, zI v1, zI v2] [zI s1, zI s0] M = Rt (some (zI (zw (s0 + s1)))) M := by
  refine Eq.trans (s_iadd f_161_26) ?_
  exact s_iret f_161_27 t_161
theorem en_161 {d : Nat} (v1 v2 : Int) (M : ZM) : E (d + 1) 161 [zR 138, zI v1, zI v2] M = Q d 161 0 [zR 138, zI v1, zI v2] [] M := e_in (Nat.le_of_ble_eq_true rfl)
-- DungeonBuilderModel.remembers()V
theorem q_162_0 {d : Nat} (M : ZM) : Q d 162 0 [zR 138, zU] [] M = Q d 162 2 [zR 138, zI 0] [] M := by
  refine Eq.trans (s_iconst f_162_0) ?_
  refine Eq.trans (s_istoren f_162_1 rfl) ?_
  rfl
theorem q_162_2 {d : Nat} (v1 : Int) (M : ZM) : Q d 162 2 [zR 138, zI v1] [] M = if 124 ≤ v1 then (Rt none M) else (if 0 ≤ v1 ∧ v1 < 124 then if 0 ≤ v1 ∧ v1 < 124 then Q d 162 2 [zR 138, zI (zw (v1 + 1))] [] (zwr M 142 v1 (M 139 v1)) else none else none) := by
  refine Eq.trans (s_iloadn f_162_2 rfl) ?_
  refine Eq.trans (s_bipush f_162_3) ?_
  refine Eq.trans (s_icmp (P := 124 ≤ v1) 26 f_162_5 (by decide) rfl) (ite_cg (fun h1 => ?_) (fun h1 => ?_))
  · exact s_vret f_162_26 t_162
  · refine Eq.trans (s_aloadn f_162_8 rfl) ?_
    refine Eq.trans (s_getR f_162_9 g_162_19 (by decide) kn_138 rf_138_5) ?_
    refine Eq.trans (s_iloadn f_162_12 rfl) ?_
    refine Eq.trans (s_aloadn f_162_13 rfl) ?_
    refine Eq.trans (s_getR f_162_14 g_162_7 (by decide) kn_138 rf_138_0) ?_
    refine Eq.trans (s_iloadn f_162_17 rfl) ?_
    refine Eq.trans (s_iald f_162_18 kn_139 ln_139) (gd_cg fun h2 => ?_)
    refine Eq.trans (s_iast f_162_19 kn_142 ln_142) (gd_cg fun h3 => ?_)
    refine Eq.trans (s_iinc f_162_20 rfl rfl) ?_
    refine Eq.trans (s_goto 2 f_162_23 (by decide)) ?_
    rfl
theorem en_162 {d : Nat} (M : ZM) : E (d + 1) 162 [zR 138] M = Q d 162 0 [zR 138, zU] [] M := e_in (Nat.le_of_ble_eq_true rfl)
-- DungeonBuilderModel.changes()V
theorem q_163_0 {d : Nat} (M : ZM) : Q d 163 0 [zR 138, zU] [] M = if (M 138 2) ≠ 6 then (Q d 163 51 [zR 138, zI 0] [] M) else (Q d 163 11 [zR 138, zI 0] [] M) := by
  refine Eq.trans (s_aloadn f_163_0 rfl) ?_
  refine Eq.trans (s_getI f_163_1 g_163_76 (by decide) kn_138) ?_
  refine Eq.trans (s_bipush f_163_4) ?_
  refine Eq.trans (s_icmp (P := (M 138 2) ≠ 6) 49 f_163_6 (by decide) rfl) (ite_cg (fun h1 => ?_) (fun h1 => ?_))
  · refine Eq.trans (s_iconst f_163_49) ?_
    refine Eq.trans (s_istoren f_163_50 rfl) ?_
    rfl
  · refine Eq.trans (s_iconst f_163_9) ?_
    refine Eq.trans (s_istoren f_163_10 rfl) ?_
    rfl
theorem q_163_11 {d : Nat} (v1 : Int) (M : ZM) : Q d 163 11 [zR 138, zI v1] [] M = if 620 ≤ v1 then (Q d 163 51 [zR 138, zI 0] [] (zwr M 138 2 (zw ((M 138 2) - 1)))) else (if 0 ≤ (zw (v1 + 124)) ∧ (zw (v1 + 124)) < 744 then if 0 ≤ v1 ∧ v1 < 744 then Q d 163 11 [zR 138, zI (zw (v1 + 1))] [] (zwr M 140 v1 (M 140 (zw (v1 + 124)))) else none else none) := by
  refine Eq.trans (s_iloadn f_163_11 rfl) ?_
  refine Eq.trans (s_sipush f_163_12) ?_
  refine Eq.trans (s_icmp (P := 620 ≤ v1) 39 f_163_15 (by decide) rfl) (ite_cg (fun h1 => ?_) (fun h1 => ?_))
  · refine Eq.trans (s_aloadn f_163_39 rfl) ?_
    refine Eq.trans (s_dup f_163_40 rfl) ?_
    refine Eq.trans (s_getI f_163_41 g_163_76 (by decide) kn_138) ?_
    refine Eq.trans (s_iconst f_163_44) ?_
    refine Eq.trans (s_isub f_163_45) ?_
    refine Eq.trans (s_putI f_163_46 g_163_76 (by decide) kn_138) ?_
    refine Eq.trans (s_iconst f_163_49) ?_
    refine Eq.trans (s_istoren f_163_50 rfl) ?_
    rfl
  · refine Eq.trans (s_aloadn f_163_18 rfl) ?_
    refine Eq.trans (s_getR f_163_19 g_163_13 (by decide) kn_138 rf_138_1) ?_
    refine Eq.trans (s_iloadn f_163_22 rfl) ?_
    refine Eq.trans (s_aloadn f_163_23 rfl) ?_
    refine Eq.trans (s_getR f_163_24 g_163_13 (by decide) kn_138 rf_138_1) ?_
    refine Eq.trans (s_iloadn f_163_27 rfl) ?_
    refine Eq.trans (s_bipush f_163_28) ?_
    refine Eq.trans (s_iadd f_163_30) ?_
    refine Eq.trans (s_iald f_163_31 kn_140 ln_140) (gd_cg fun h2 => ?_)
    refine Eq.trans (s_iast f_163_32 kn_140 ln_140) (gd_cg fun h3 => ?_)
    refine Eq.trans (s_iinc f_163_33 rfl rfl) ?_
    refine Eq.trans (s_goto 11 f_163_36 (by decide)) ?_
    rfl
theorem q_163_51 {d : Nat} (v1 : Int) (M : ZM) : Q d 163 51 [zR 138, zI v1] [] M = if 124 ≤ v1 then (Rt none (zwr M 138 2 (zw ((M 138 2) + 1)))) else (if 0 ≤ v1 ∧ v1 < 124 then if 0 ≤ (zw ((zw (124 * (M 138 2))) + v1)) ∧ (zw ((zw (124 * (M 138 2))) + v1)) < 744 then Q d 163 51 [zR 138, zI (zw (v1 + 1))] [] (zwr M 140 (zw ((zw (124 * (M 138 2))) + v1)) (M 142 v1)) else none else none) := by
  refine Eq.trans (s_iloadn f_163_51 rfl) ?_
  refine Eq.trans (s_bipush f_163_52) ?_
  refine Eq.trans (s_icmp (P := 124 ≤ v1) 83 f_163_54 (by decide) rfl) (ite_cg (fun h1 => ?_) (fun h1 => ?_))
  · refine Eq.trans (s_aloadn f_163_83 rfl) ?_
    refine Eq.trans (s_dup f_163_84 rfl) ?_
    refine Eq.trans (s_getI f_163_85 g_163_76 (by decide) kn_138) ?_
    refine Eq.trans (s_iconst f_163_88) ?_
    refine Eq.trans (s_iadd f_163_89) ?_
    refine Eq.trans (s_putI f_163_90 g_163_76 (by decide) kn_138) ?_
    exact s_vret f_163_93 t_163
  · refine Eq.trans (s_aloadn f_163_57 rfl) ?_
    refine Eq.trans (s_getR f_163_58 g_163_13 (by decide) kn_138 rf_138_1) ?_
    refine Eq.trans (s_bipush f_163_61) ?_
    refine Eq.trans (s_aloadn f_163_63 rfl) ?_
    refine Eq.trans (s_getI f_163_64 g_163_76 (by decide) kn_138) ?_
    refine Eq.trans (s_imul f_163_67) ?_
    refine Eq.trans (s_iloadn f_163_68 rfl) ?_
    refine Eq.trans (s_iadd f_163_69) ?_
    refine Eq.trans (s_aloadn f_163_70 rfl) ?_
    refine Eq.trans (s_getR f_163_71 g_163_19 (by decide) kn_138 rf_138_5) ?_
    refine Eq.trans (s_iloadn f_163_74 rfl) ?_
    refine Eq.trans (s_iald f_163_75 kn_142 ln_142) (gd_cg fun h2 => ?_)
    refine Eq.trans (s_iast f_163_76 kn_140 ln_140) (gd_cg fun h3 => ?_)
    refine Eq.trans (s_iinc f_163_77 rfl rfl) ?_
    refine Eq.trans (s_goto 51 f_163_80 (by decide)) ?_
    rfl
theorem en_163 {d : Nat} (M : ZM) : E (d + 1) 163 [zR 138] M = Q d 163 0 [zR 138, zU] [] M := e_in (Nat.le_of_ble_eq_true rfl)
-- DungeonBuilderModel.kept(I)I
theorem q_164_0 {d : Nat} (v1 : Int) (M : ZM) : Q d 164 0 [zR 138, zI v1] [] M = if 0 ≤ v1 then (Cb (E d 163 [zR 138] M) (fun v h => zrun (zevl d) 164 14 [zR 138, zI v1] (v.toList ++ []) h)) else (if v1 ≠ (-104) then (Q d 164 14 [zR 138, zI v1] [] M) else (Cb (E d 163 [zR 138] M) (fun v h => zrun (zevl d) 164 14 [zR 138, zI v1] (v.toList ++ []) h))) := by
  refine Eq.trans (s_iloadn f_164_0 rfl) ?_
  refine Eq.trans (s_if (P := 0 ≤ v1) 10 f_164_1 (by decide) rfl) (ite_cg (fun h1 => ?_) (fun h1 => ?_))
  · refine Eq.trans (s_aloadn f_164_10 rfl) ?_
    exact s_call [zR 138] [] f_164_11 rfl c_164_79 rfl rfl (Nat.le_of_ble_eq_true rfl) (by show (zkn SH 138 == zown 163) = true; rw [show zkn SH 138 = 10 from kn_138]; rfl)
  · refine Eq.trans (s_iloadn f_164_4 rfl) ?_
    refine Eq.trans (s_bipush f_164_5) ?_
    refine Eq.trans (s_icmp (P := v1 ≠ (-104)) 14 f_164_7 (by decide) rfl) (ite_cg (fun h2 => ?_) (fun h2 => ?_))
    · rfl
    · refine Eq.trans (s_aloadn f_164_10 rfl) ?_
      exact s_call [zR 138] [] f_164_11 rfl c_164_79 rfl rfl (Nat.le_of_ble_eq_true rfl) (by show (zkn SH 138 == zown 163) = true; rw [show zkn SH 138 = 10 from kn_138]; rfl)
theorem q_164_14 {d : Nat} (v1 : Int) (M : ZM) : Q d 164 14 [zR 138, zI v1] [] M = Rt (some (zI v1)) M := by
  refine Eq.trans (s_iloadn f_164_14 rfl) ?_
  exact s_iret f_164_15 t_164
theorem en_164 {d : Nat} (v1 : Int) (M : ZM) : E (d + 1) 164 [zR 138, zI v1] M = Q d 164 0 [zR 138, zI v1] [] M := e_in (Nat.le_of_ble_eq_true rfl)
-- DungeonBuilderModel.roomAt(II)I
theorem q_165_0 {d : Nat} (v1 v2 : Int) (M : ZM) : Q d 165 0 [zR 138, zI v1, zI v2, zU] [] M = Q d 165 2 [zR 138, zI v1, zI v2, zI 0] [] M := by
  refine Eq.trans (s_iconst f_165_0) ?_
  refine Eq.trans (s_istoren f_165_1 rfl) ?_
  rfl
theorem q_165_2 {d : Nat} (v1 v2 v3 : Int) (M : ZM) : Q d 165 2 [zR 138, zI v1, zI v2, zI v3] [] M = if (M 139 120) ≤ v3 then (Rt (some (zI (-1))) M) else (Cb (E d 156 [zR 138, zI v3, zI 0] M) (fun v h => zrun (zevl d) 165 20 [zR 138, zI v1, zI v2, zI v3] (v.toList ++ [zI v1]) h)) := by
  refine Eq.trans (s_iloadn f_165_2 rfl) ?_
  refine Eq.trans (s_aloadn f_165_3 rfl) ?_
  refine Eq.trans (s_getR f_165_4 g_165_7 (by decide) kn_138 rf_138_0) ?_
  refine Eq.trans (s_bipush f_165_7) ?_
  refine Eq.trans (s_iald f_165_9 kn_139 ln_139) (Eq.trans (if_pos (by decide)) ?_)
  refine Eq.trans (s_icmp (P := (M 139 120) ≤ v3) 67 f_165_10 (by decide) rfl) (ite_cg (fun h1 => ?_) (fun h1 => ?_))
  · refine Eq.trans (s_iconst f_165_67) ?_
    exact s_iret f_165_68 t_165
  · refine Eq.trans (s_iloadn f_165_13 rfl) ?_
    refine Eq.trans (s_aloadn f_165_14 rfl) ?_
    refine Eq.trans (s_iloadn f_165_15 rfl) ?_
    refine Eq.trans (s_iconst f_165_16) ?_
    exact s_call [zR 138, zI v3, zI 0] [zI v1] f_165_17 rfl c_165_62 rfl rfl (Nat.le_of_ble_eq_true rfl) (by show (zkn SH 138 == zown 156) = true; rw [show zkn SH 138 = 10 from kn_138]; rfl)
theorem q_165_20 {d : Nat} (v1 v2 v3 s0 s1 : Int) (M : ZM) : Q d 165 20 [zR 138, zI v1, zI v2, zI v3] [zI s1, zI s0] M = Cb (E d 156 [zR 138, zI v3, zI 2] M) (fun v h => zrun (zevl d) 165 28 [zR 138, zI v1, zI v2, zI v3] (v.toList ++ [zI 0, zI (zw (s0 - s1))]) h) := by
  refine Eq.trans (s_isub f_165_20) ?_
  refine Eq.trans (s_iconst f_165_21) ?_
  refine Eq.trans (s_aloadn f_165_22 rfl) ?_
  refine Eq.trans (s_iloadn f_165_23 rfl) ?_
  refine Eq.trans (s_iconst f_165_24) ?_
  exact s_call [zR 138, zI v3, zI 2] [zI 0, zI (zw (s0 - s1))] f_165_25 rfl c_165_62 rfl rfl (Nat.le_of_ble_eq_true rfl) (by show (zkn SH 138 == zown 156) = true; rw [show zkn SH 138 = 10 from kn_138]; rfl)
theorem q_165_28 {d : Nat} (v1 v2 v3 s0 s1 s2 : Int) (M : ZM) : Q d 165 28 [zR 138, zI v1, zI v2, zI v3] [zI s2, zI s1, zI s0] M = Cb (E d 153 [zI s0, zI s1, zI (zw (s2 - 1))] M) (fun v h => zrun (zevl d) 165 33 [zR 138, zI v1, zI v2, zI v3] (v.toList ++ []) h) := by
  refine Eq.trans (s_iconst f_165_28) ?_
  refine Eq.trans (s_isub f_165_29) ?_
  exact s_call [zI s0, zI s1, zI (zw (s2 - 1))] [] f_165_30 rfl c_165_58 rfl rfl (Nat.le_of_ble_eq_true rfl) rfl
theorem q_165_33 {d : Nat} (v1 v2 v3 s0 : Int) (M : ZM) : Q d 165 33 [zR 138, zI v1, zI v2, zI v3] [zI s0] M = if s0 = 0 then (Q d 165 2 [zR 138, zI v1, zI v2, zI (zw (v3 + 1))] [] M) else (Cb (E d 156 [zR 138, zI v3, zI 1] M) (fun v h => zrun (zevl d) 165 43 [zR 138, zI v1, zI v2, zI v3] (v.toList ++ [zI v2]) h)) := by
  refine Eq.trans (s_if (P := s0 = 0) 61 f_165_33 (by decide) rfl) (ite_cg (fun h1 => ?_) (fun h1 => ?_))
  · refine Eq.trans (s_iinc f_165_61 rfl rfl) ?_
    refine Eq.trans (s_goto 2 f_165_64 (by decide)) ?_
    rfl
  · refine Eq.trans (s_iloadn f_165_36 rfl) ?_
    refine Eq.trans (s_aloadn f_165_37 rfl) ?_
    refine Eq.trans (s_iloadn f_165_38 rfl) ?_
    refine Eq.trans (s_iconst f_165_39) ?_
    exact s_call [zR 138, zI v3, zI 1] [zI v2] f_165_40 rfl c_165_62 rfl rfl (Nat.le_of_ble_eq_true rfl) (by show (zkn SH 138 == zown 156) = true; rw [show zkn SH 138 = 10 from kn_138]; rfl)
theorem q_165_43 {d : Nat} (v1 v2 v3 s0 s1 : Int) (M : ZM) : Q d 165 43 [zR 138, zI v1, zI v2, zI v3] [zI s1, zI s0] M = Cb (E d 156 [zR 138, zI v3, zI 3] M) (fun v h => zrun (zevl d) 165 51 [zR 138, zI v1, zI v2, zI v3] (v.toList ++ [zI 0, zI (zw (s0 - s1))]) h) := by
  refine Eq.trans (s_isub f_165_43) ?_
  refine Eq.trans (s_iconst f_165_44) ?_
  refine Eq.trans (s_aloadn f_165_45 rfl) ?_
  refine Eq.trans (s_iloadn f_165_46 rfl) ?_
  refine Eq.trans (s_iconst f_165_47) ?_
  exact s_call [zR 138, zI v3, zI 3] [zI 0, zI (zw (s0 - s1))] f_165_48 rfl c_165_62 rfl rfl (Nat.le_of_ble_eq_true rfl) (by show (zkn SH 138 == zown 156) = true; rw [show zkn SH 138 = 10 from kn_138]; rfl)
theorem q_165_51 {d : Nat} (v1 v2 v3 s0 s1 s2 : Int) (M : ZM) : Q d 165 51 [zR 138, zI v1, zI v2, zI v3] [zI s2, zI s1, zI s0] M = Cb (E d 153 [zI s0, zI s1, zI (zw (s2 - 1))] M) (fun v h => zrun (zevl d) 165 56 [zR 138, zI v1, zI v2, zI v3] (v.toList ++ []) h) := by
  refine Eq.trans (s_iconst f_165_51) ?_
  refine Eq.trans (s_isub f_165_52) ?_
  exact s_call [zI s0, zI s1, zI (zw (s2 - 1))] [] f_165_53 rfl c_165_58 rfl rfl (Nat.le_of_ble_eq_true rfl) rfl
theorem q_165_56 {d : Nat} (v1 v2 v3 s0 : Int) (M : ZM) : Q d 165 56 [zR 138, zI v1, zI v2, zI v3] [zI s0] M = if s0 = 0 then (Q d 165 2 [zR 138, zI v1, zI v2, zI (zw (v3 + 1))] [] M) else (Rt (some (zI v3)) M) := by
  refine Eq.trans (s_if (P := s0 = 0) 61 f_165_56 (by decide) rfl) (ite_cg (fun h1 => ?_) (fun h1 => ?_))
  · refine Eq.trans (s_iinc f_165_61 rfl rfl) ?_
    refine Eq.trans (s_goto 2 f_165_64 (by decide)) ?_
    rfl
  · refine Eq.trans (s_iloadn f_165_59 rfl) ?_
    exact s_iret f_165_60 t_165
theorem en_165 {d : Nat} (v1 v2 : Int) (M : ZM) : E (d + 1) 165 [zR 138, zI v1, zI v2] M = Q d 165 0 [zR 138, zI v1, zI v2, zU] [] M := e_in (Nat.le_of_ble_eq_true rfl)
-- DungeonBuilderModel.addsRoom(IIII)I
theorem q_166_0 {d : Nat} (v1 v2 v3 v4 : Int) (M : ZM) : Q d 166 0 [zR 138, zI v1, zI v2, zI v3, zI v4, zU, zU] [] M = Cb (E d 153 [zI v3, zI 2, zI 12] M) (fun v h => zrun (zevl d) 166 7 [zR 138, zI v1, zI v2, zI v3, zI v4, zU, zU] (v.toList ++ []) h) := by
  refine Eq.trans (s_iloadn f_166_0 rfl) ?_
  refine Eq.trans (s_iconst f_166_1) ?_
  refine Eq.trans (s_bipush f_166_2) ?_
  exact s_call [zI v3, zI 2, zI 12] [] f_166_4 rfl c_166_58 rfl rfl (Nat.le_of_ble_eq_true rfl) rfl
theorem q_166_7 {d : Nat} (v1 v2 v3 v4 s0 : Int) (M : ZM) : Q d 166 7 [zR 138, zI v1, zI v2, zI v3, zI v4, zU, zU] [zI s0] M = if s0 = 0 then (Rt (some (zI (-102))) M) else (Cb (E d 153 [zI v4, zI 2, zI 12] M) (fun v h => zrun (zevl d) 166 18 [zR 138, zI v1, zI v2, zI v3, zI v4, zU, zU] (v.toList ++ []) h)) := by
  refine Eq.trans (s_if (P := s0 = 0) 46 f_166_7 (by decide) rfl) (ite_cg (fun h1 => ?_) (fun h1 => ?_))
  · refine Eq.trans (s_bipush f_166_46) ?_
    exact s_iret f_166_48 t_166
  · refine Eq.trans (s_iload f_166_10 rfl) ?_
    refine Eq.trans (s_iconst f_166_12) ?_
    refine Eq.trans (s_bipush f_166_13) ?_
    exact s_call [zI v4, zI 2, zI 12] [] f_166_15 rfl c_166_58 rfl rfl (Nat.le_of_ble_eq_true rfl) rfl
theorem q_166_18 {d : Nat} (v1 v2 v3 v4 s0 : Int) (M : ZM) : Q d 166 18 [zR 138, zI v1, zI v2, zI v3, zI v4, zU, zU] [zI s0] M = if s0 = 0 then (Rt (some (zI (-102))) M) else (Cb (E d 153 [zI v1, zI 0, zI (zw (24 - v3))] M) (fun v h => zrun (zevl d) 166 30 [zR 138, zI v1, zI v2, zI v3, zI v4, zU, zU] (v.toList ++ []) h)) := by
  refine Eq.trans (s_if (P := s0 = 0) 46 f_166_18 (by decide) rfl) (ite_cg (fun h1 => ?_) (fun h1 => ?_))
  · refine Eq.trans (s_bipush f_166_46) ?_
    exact s_iret f_166_48 t_166
  · refine Eq.trans (s_iloadn f_166_21 rfl) ?_
    refine Eq.trans (s_iconst f_166_22) ?_
    refine Eq.trans (s_bipush f_166_23) ?_
    refine Eq.trans (s_iloadn f_166_25 rfl) ?_
    refine Eq.trans (s_isub f_166_26) ?_
    exact s_call [zI v1, zI 0, zI (zw (24 - v3))] [] f_166_27 rfl c_166_58 rfl rfl (Nat.le_of_ble_eq_true rfl) rfl
theorem q_166_30 {d : Nat} (v1 v2 v3 v4 s0 : Int) (M : ZM) : Q d 166 30 [zR 138, zI v1, zI v2, zI v3, zI v4, zU, zU] [zI s0] M = if s0 = 0 then (Rt (some (zI (-102))) M) else (Cb (E d 153 [zI v2, zI 0, zI (zw (16 - v4))] M) (fun v h => zrun (zevl d) 166 43 [zR 138, zI v1, zI v2, zI v3, zI v4, zU, zU] (v.toList ++ []) h)) := by
  refine Eq.trans (s_if (P := s0 = 0) 46 f_166_30 (by decide) rfl) (ite_cg (fun h1 => ?_) (fun h1 => ?_))
  · refine Eq.trans (s_bipush f_166_46) ?_
    exact s_iret f_166_48 t_166
  · refine Eq.trans (s_iloadn f_166_33 rfl) ?_
    refine Eq.trans (s_iconst f_166_34) ?_
    refine Eq.trans (s_bipush f_166_35) ?_
    refine Eq.trans (s_iload f_166_37 rfl) ?_
    refine Eq.trans (s_isub f_166_39) ?_
    exact s_call [zI v2, zI 0, zI (zw (16 - v4))] [] f_166_40 rfl c_166_58 rfl rfl (Nat.le_of_ble_eq_true rfl) rfl
theorem q_166_43 {d : Nat} (v1 v2 v3 v4 s0 : Int) (M : ZM) : Q d 166 43 [zR 138, zI v1, zI v2, zI v3, zI v4, zU, zU] [zI s0] M = if s0 ≠ 0 then (Q d 166 52 [zR 138, zI v1, zI v2, zI v3, zI v4, zI v1, zU] [] M) else (Rt (some (zI (-102))) M) := by
  refine Eq.trans (s_if (P := s0 ≠ 0) 49 f_166_43 (by decide) rfl) (ite_cg (fun h1 => ?_) (fun h1 => ?_))
  · refine Eq.trans (s_iloadn f_166_49 rfl) ?_
    refine Eq.trans (s_istore f_166_50 rfl) ?_
    rfl
  · refine Eq.trans (s_bipush f_166_46) ?_
    exact s_iret f_166_48 t_166
theorem q_166_52 {d : Nat} (v1 v2 v3 v4 v5 : Int) (z6 : ZV) (M : ZM) : Q d 166 52 [zR 138, zI v1, zI v2, zI v3, zI v4, zI v5, z6] [] M = if (zw (v1 + v3)) ≤ v5 then (if (M 139 120) ≠ 12 then (if 0 ≤ (zw (0 + (zw (5 * (M 139 120))))) ∧ (zw (0 + (zw (5 * (M 139 120))))) < 124 then if 0 ≤ (zw ((zw (0 + (zw (5 * (M 139 120))))) + 1)) ∧ (zw ((zw (0 + (zw (5 * (M 139 120))))) + 1)) < 124 then if 0 ≤ (zw ((zw (0 + (zw (5 * (M 139 120))))) + 2)) ∧ (zw ((zw (0 + (zw (5 * (M 139 120))))) + 2)) < 124 then if 0 ≤ (zw ((zw (0 + (zw (5 * (M 139 120))))) + 3)) ∧ (zw ((zw (0 + (zw (5 * (M 139 120))))) + 3)) < 124 then if 0 ≤ (zw ((zw (0 + (zw (5 * (M 139 120))))) + 4)) ∧ (zw ((zw (0 + (zw (5 * (M 139 120))))) + 4)) < 124 then Rt (some (zI (zw (((zwr (zwr (zwr (zwr (zwr (zwr M 139 (zw (0 + (zw (5 * (M 139 120))))) v1) 139 (zw ((zw (0 + (zw (5 * (M 139 120))))) + 1)) v2) 139 (zw ((zw (0 + (zw (5 * (M 139 120))))) + 2)) v3) 139 (zw ((zw (0 + (zw (5 * (M 139 120))))) + 3)) v4) 139 (zw ((zw (0 + (zw (5 * (M 139 120))))) + 4)) (-1)) 139 120 (zw (((zwr (zwr (zwr (zwr (zwr M 139 (zw (0 + (zw (5 * (M 139 120))))) v1) 139 (zw ((zw (0 + (zw (5 * (M 139 120))))) + 1)) v2) 139 (zw ((zw (0 + (zw (5 * (M 139 120))))) + 2)) v3) 139 (zw ((zw (0 + (zw (5 * (M 139 120))))) + 3)) v4) 139 (zw ((zw (0 + (zw (5 * (M 139 120))))) + 4)) (-1)) 139 120) + 1))) 139 120) - 1)))) (zwr (zwr (zwr (zwr (zwr (zwr M 139 (zw (0 + (zw (5 * (M 139 120))))) v1) 139 (zw ((zw (0 + (zw (5 * (M 139 120))))) + 1)) v2) 139 (zw ((zw (0 + (zw (5 * (M 139 120))))) + 2)) v3) 139 (zw ((zw (0 + (zw (5 * (M 139 120))))) + 3)) v4) 139 (zw ((zw (0 + (zw (5 * (M 139 120))))) + 4)) (-1)) 139 120 (zw (((zwr (zwr (zwr (zwr (zwr M 139 (zw (0 + (zw (5 * (M 139 120))))) v1) 139 (zw ((zw (0 + (zw (5 * (M 139 120))))) + 1)) v2) 139 (zw ((zw (0 + (zw (5 * (M 139 120))))) + 2)) v3) 139 (zw ((zw (0 + (zw (5 * (M 139 120))))) + 3)) v4) 139 (zw ((zw (0 + (zw (5 * (M 139 120))))) + 4)) (-1)) 139 120) + 1))) else none else none else none else none else none) else (Rt (some (zI (-103))) M)) else (Q d 166 63 [zR 138, zI v1, zI v2, zI v3, zI v4, zI v5, zI v2] [] M) := by
  refine Eq.trans (s_iload f_166_52 rfl) ?_
  refine Eq.trans (s_iloadn f_166_54 rfl) ?_
  refine Eq.trans (s_iloadn f_166_55 rfl) ?_
  refine Eq.trans (s_iadd f_166_56) ?_
  refine Eq.trans (s_icmp (P := (zw (v1 + v3)) ≤ v5) 98 f_166_57 (by decide) rfl) (ite_cg (fun h1 => ?_) (fun h1 => ?_))
  · refine Eq.trans (s_aloadn f_166_98 rfl) ?_
    refine Eq.trans (s_getR f_166_99 g_166_7 (by decide) kn_138 rf_138_0) ?_
    refine Eq.trans (s_bipush f_166_102) ?_
    refine Eq.trans (s_iald f_166_104 kn_139 ln_139) (Eq.trans (if_pos (by decide)) ?_)
    refine Eq.trans (s_bipush f_166_105) ?_
    refine Eq.trans (s_icmp (P := (M 139 120) ≠ 12) 113 f_166_107 (by decide) rfl) (ite_cg (fun h2 => ?_) (fun h2 => ?_))
    · refine Eq.trans (s_iconst f_166_113) ?_
      refine Eq.trans (s_iconst f_166_114) ?_
      refine Eq.trans (s_aloadn f_166_115 rfl) ?_
      refine Eq.trans (s_getR f_166_116 g_166_7 (by decide) kn_138 rf_138_0) ?_
      refine Eq.trans (s_bipush f_166_119) ?_
      refine Eq.trans (s_iald f_166_121 kn_139 ln_139) (Eq.trans (if_pos (by decide)) ?_)
      refine Eq.trans (s_imul f_166_122) ?_
      refine Eq.trans (s_iadd f_166_123) ?_
      refine Eq.trans (s_istore f_166_124 rfl) ?_
      refine Eq.trans (s_aloadn f_166_126 rfl) ?_
      refine Eq.trans (s_getR f_166_127 g_166_7 (by decide) kn_138 rf_138_0) ?_
      refine Eq.trans (s_iload f_166_130 rfl) ?_
      refine Eq.trans (s_iloadn f_166_132 rfl) ?_
      refine Eq.trans (s_iast f_166_133 kn_139 ln_139) (gd_cg fun h3 => ?_)
      refine Eq.trans (s_aloadn f_166_134 rfl) ?_
      refine Eq.trans (s_getR f_166_135 g_166_7 (by decide) kn_138 rf_138_0) ?_
      refine Eq.trans (s_iload f_166_138 rfl) ?_
      refine Eq.trans (s_iconst f_166_140) ?_
      refine Eq.trans (s_iadd f_166_141) ?_
      refine Eq.trans (s_iloadn f_166_142 rfl) ?_
      refine Eq.trans (s_iast f_166_143 kn_139 ln_139) (gd_cg fun h4 => ?_)
      refine Eq.trans (s_aloadn f_166_144 rfl) ?_
      refine Eq.trans (s_getR f_166_145 g_166_7 (by decide) kn_138 rf_138_0) ?_
      refine Eq.trans (s_iload f_166_148 rfl) ?_
      refine Eq.trans (s_iconst f_166_150) ?_
      refine Eq.trans (s_iadd f_166_151) ?_
      refine Eq.trans (s_iloadn f_166_152 rfl) ?_
      refine Eq.trans (s_iast f_166_153 kn_139 ln_139) (gd_cg fun h5 => ?_)
      refine Eq.trans (s_aloadn f_166_154 rfl) ?_
      refine Eq.trans (s_getR f_166_155 g_166_7 (by decide) kn_138 rf_138_0) ?_
      refine Eq.trans (s_iload f_166_158 rfl) ?_
      refine Eq.trans (s_iconst f_166_160) ?_
      refine Eq.trans (s_iadd f_166_161) ?_
      refine Eq.trans (s_iload f_166_162 rfl) ?_
      refine Eq.trans (s_iast f_166_164 kn_139 ln_139) (gd_cg fun h6 => ?_)
      refine Eq.trans (s_aloadn f_166_165 rfl) ?_
      refine Eq.trans (s_getR f_166_166 g_166_7 (by decide) kn_138 rf_138_0) ?_
      refine Eq.trans (s_iload f_166_169 rfl) ?_
      refine Eq.trans (s_iconst f_166_171) ?_
      refine Eq.trans (s_iadd f_166_172) ?_
      refine Eq.trans (s_iconst f_166_173) ?_
      refine Eq.trans (s_iast f_166_174 kn_139 ln_139) (gd_cg fun h7 => ?_)
      refine Eq.trans (s_aloadn f_166_175 rfl) ?_
      refine Eq.trans (s_getR f_166_176 g_166_7 (by decide) kn_138 rf_138_0) ?_
      refine Eq.trans (s_bipush f_166_179) ?_
      refine Eq.trans (s_dup2 f_166_181 ⟨rfl, rfl⟩) ?_
      refine Eq.trans (s_iald f_166_182 kn_139 ln_139) (Eq.trans (if_pos (by decide)) ?_)
      refine Eq.trans (s_iconst f_166_183) ?_
      refine Eq.trans (s_iadd f_166_184) ?_
      refine Eq.trans (s_iast f_166_185 kn_139 ln_139) (Eq.trans (if_pos (by decide)) ?_)
      refine Eq.trans (s_aloadn f_166_186 rfl) ?_
      refine Eq.trans (s_getR f_166_187 g_166_7 (by decide) kn_138 rf_138_0) ?_
      refine Eq.trans (s_bipush f_166_190) ?_
      refine Eq.trans (s_iald f_166_192 kn_139 ln_139) (Eq.trans (if_pos (by decide)) ?_)
      refine Eq.trans (s_iconst f_166_193) ?_
      refine Eq.trans (s_isub f_166_194) ?_
      exact s_iret f_166_195 t_166
    · refine Eq.trans (s_bipush f_166_110) ?_
      exact s_iret f_166_112 t_166
  · refine Eq.trans (s_iloadn f_166_60 rfl) ?_
    refine Eq.trans (s_istore f_166_61 rfl) ?_
    rfl
theorem q_166_63 {d : Nat} (v1 v2 v3 v4 v5 v6 : Int) (M : ZM) : Q d 166 63 [zR 138, zI v1, zI v2, zI v3, zI v4, zI v5, zI v6] [] M = if (zw (v2 + v4)) ≤ v6 then (Q d 166 52 [zR 138, zI v1, zI v2, zI v3, zI v4, zI (zw (v5 + 1)), zI v6] [] M) else (Cb (E d 165 [zR 138, zI v5, zI v6] M) (fun v h => zrun (zevl d) 166 80 [zR 138, zI v1, zI v2, zI v3, zI v4, zI v5, zI v6] (v.toList ++ []) h)) := by
  refine Eq.trans (s_iload f_166_63 rfl) ?_
  refine Eq.trans (s_iloadn f_166_65 rfl) ?_
  refine Eq.trans (s_iload f_166_66 rfl) ?_
  refine Eq.trans (s_iadd f_166_68) ?_
  refine Eq.trans (s_icmp (P := (zw (v2 + v4)) ≤ v6) 92 f_166_69 (by decide) rfl) (ite_cg (fun h1 => ?_) (fun h1 => ?_))
  · refine Eq.trans (s_iinc f_166_92 rfl rfl) ?_
    refine Eq.trans (s_goto 52 f_166_95 (by decide)) ?_
    rfl
  · refine Eq.trans (s_aloadn f_166_72 rfl) ?_
    refine Eq.trans (s_iload f_166_73 rfl) ?_
    refine Eq.trans (s_iload f_166_75 rfl) ?_
    exact s_call [zR 138, zI v5, zI v6] [] f_166_77 rfl c_166_82 rfl rfl (Nat.le_of_ble_eq_true rfl) (by show (zkn SH 138 == zown 165) = true; rw [show zkn SH 138 = 10 from kn_138]; rfl)
theorem q_166_80 {d : Nat} (v1 v2 v3 v4 v5 v6 s0 : Int) (M : ZM) : Q d 166 80 [zR 138, zI v1, zI v2, zI v3, zI v4, zI v5, zI v6] [zI s0] M = if s0 < 0 then (Q d 166 63 [zR 138, zI v1, zI v2, zI v3, zI v4, zI v5, zI (zw (v6 + 1))] [] M) else (Rt (some (zI (-106))) M) := by
  refine Eq.trans (s_if (P := s0 < 0) 86 f_166_80 (by decide) rfl) (ite_cg (fun h1 => ?_) (fun h1 => ?_))
  · refine Eq.trans (s_iinc f_166_86 rfl rfl) ?_
    refine Eq.trans (s_goto 63 f_166_89 (by decide)) ?_
    rfl
  · refine Eq.trans (s_bipush f_166_83) ?_
    exact s_iret f_166_85 t_166
theorem en_166 {d : Nat} (v1 v2 v3 v4 : Int) (M : ZM) : E (d + 1) 166 [zR 138, zI v1, zI v2, zI v3, zI v4] M = Q d 166 0 [zR 138, zI v1, zI v2, zI v3, zI v4, zU, zU] [] M := e_in (Nat.le_of_ble_eq_true rfl)
-- DungeonBuilderModel.wayBetween(II)I
theorem q_167_0 {d : Nat} (v1 v2 : Int) (M : ZM) : Q d 167 0 [zR 138, zI v1, zI v2, zU] [] M = Q d 167 2 [zR 138, zI v1, zI v2, zI 0] [] M := by
  refine Eq.trans (s_iconst f_167_0) ?_
  refine Eq.trans (s_istoren f_167_1 rfl) ?_
  rfl
theorem q_167_2 {d : Nat} (v1 v2 v3 : Int) (M : ZM) : Q d 167 2 [zR 138, zI v1, zI v2, zI v3] [] M = if (M 139 121) ≤ v3 then (Rt (some (zI (-1))) M) else (Cb (E d 157 [zR 138, zI v3, zI 0] M) (fun v h => zrun (zevl d) 167 19 [zR 138, zI v1, zI v2, zI v3] (v.toList ++ []) h)) := by
  refine Eq.trans (s_iloadn f_167_2 rfl) ?_
  refine Eq.trans (s_aloadn f_167_3 rfl) ?_
  refine Eq.trans (s_getR f_167_4 g_167_7 (by decide) kn_138 rf_138_0) ?_
  refine Eq.trans (s_bipush f_167_7) ?_
  refine Eq.trans (s_iald f_167_9 kn_139 ln_139) (Eq.trans (if_pos (by decide)) ?_)
  refine Eq.trans (s_icmp (P := (M 139 121) ≤ v3) 61 f_167_10 (by decide) rfl) (ite_cg (fun h1 => ?_) (fun h1 => ?_))
  · refine Eq.trans (s_iconst f_167_61) ?_
    exact s_iret f_167_62 t_167
  · refine Eq.trans (s_aloadn f_167_13 rfl) ?_
    refine Eq.trans (s_iloadn f_167_14 rfl) ?_
    refine Eq.trans (s_iconst f_167_15) ?_
    exact s_call [zR 138, zI v3, zI 0] [] f_167_16 rfl c_167_85 rfl rfl (Nat.le_of_ble_eq_true rfl) (by show (zkn SH 138 == zown 157) = true; rw [show zkn SH 138 = 10 from kn_138]; rfl)
theorem q_167_19 {d : Nat} (v1 v2 v3 s0 : Int) (M : ZM) : Q d 167 19 [zR 138, zI v1, zI v2, zI v3] [zI s0] M = if s0 ≠ v1 then (Cb (E d 157 [zR 138, zI v3, zI 0] M) (fun v h => zrun (zevl d) 167 39 [zR 138, zI v1, zI v2, zI v3] (v.toList ++ []) h)) else (Cb (E d 157 [zR 138, zI v3, zI 1] M) (fun v h => zrun (zevl d) 167 29 [zR 138, zI v1, zI v2, zI v3] (v.toList ++ []) h)) := by
  refine Eq.trans (s_iloadn f_167_19 rfl) ?_
  refine Eq.trans (s_icmp (P := s0 ≠ v1) 33 f_167_20 (by decide) rfl) (ite_cg (fun h1 => ?_) (fun h1 => ?_))
  · refine Eq.trans (s_aloadn f_167_33 rfl) ?_
    refine Eq.trans (s_iloadn f_167_34 rfl) ?_
    refine Eq.trans (s_iconst f_167_35) ?_
    exact s_call [zR 138, zI v3, zI 0] [] f_167_36 rfl c_167_85 rfl rfl (Nat.le_of_ble_eq_true rfl) (by show (zkn SH 138 == zown 157) = true; rw [show zkn SH 138 = 10 from kn_138]; rfl)
  · refine Eq.trans (s_aloadn f_167_23 rfl) ?_
    refine Eq.trans (s_iloadn f_167_24 rfl) ?_
    refine Eq.trans (s_iconst f_167_25) ?_
    exact s_call [zR 138, zI v3, zI 1] [] f_167_26 rfl c_167_85 rfl rfl (Nat.le_of_ble_eq_true rfl) (by show (zkn SH 138 == zown 157) = true; rw [show zkn SH 138 = 10 from kn_138]; rfl)
theorem q_167_29 {d : Nat} (v1 v2 v3 s0 : Int) (M : ZM) : Q d 167 29 [zR 138, zI v1, zI v2, zI v3] [zI s0] M = if s0 = v2 then (Rt (some (zI v3)) M) else (Cb (E d 157 [zR 138, zI v3, zI 0] M) (fun v h => zrun (zevl d) 167 39 [zR 138, zI v1, zI v2, zI v3] (v.toList ++ []) h)) := by
  refine Eq.trans (s_iloadn f_167_29 rfl) ?_
  refine Eq.trans (s_icmp (P := s0 = v2) 53 f_167_30 (by decide) rfl) (ite_cg (fun h1 => ?_) (fun h1 => ?_))
  · refine Eq.trans (s_iloadn f_167_53 rfl) ?_
    exact s_iret f_167_54 t_167
  · refine Eq.trans (s_aloadn f_167_33 rfl) ?_
    refine Eq.trans (s_iloadn f_167_34 rfl) ?_
    refine Eq.trans (s_iconst f_167_35) ?_
    exact s_call [zR 138, zI v3, zI 0] [] f_167_36 rfl c_167_85 rfl rfl (Nat.le_of_ble_eq_true rfl) (by show (zkn SH 138 == zown 157) = true; rw [show zkn SH 138 = 10 from kn_138]; rfl)
theorem q_167_39 {d : Nat} (v1 v2 v3 s0 : Int) (M : ZM) : Q d 167 39 [zR 138, zI v1, zI v2, zI v3] [zI s0] M = if s0 ≠ v2 then (Q d 167 2 [zR 138, zI v1, zI v2, zI (zw (v3 + 1))] [] M) else (Cb (E d 157 [zR 138, zI v3, zI 1] M) (fun v h => zrun (zevl d) 167 49 [zR 138, zI v1, zI v2, zI v3] (v.toList ++ []) h)) := by
  refine Eq.trans (s_iloadn f_167_39 rfl) ?_
  refine Eq.trans (s_icmp (P := s0 ≠ v2) 55 f_167_40 (by decide) rfl) (ite_cg (fun h1 => ?_) (fun h1 => ?_))
  · refine Eq.trans (s_iinc f_167_55 rfl rfl) ?_
    refine Eq.trans (s_goto 2 f_167_58 (by decide)) ?_
    rfl
  · refine Eq.trans (s_aloadn f_167_43 rfl) ?_
    refine Eq.trans (s_iloadn f_167_44 rfl) ?_
    refine Eq.trans (s_iconst f_167_45) ?_
    exact s_call [zR 138, zI v3, zI 1] [] f_167_46 rfl c_167_85 rfl rfl (Nat.le_of_ble_eq_true rfl) (by show (zkn SH 138 == zown 157) = true; rw [show zkn SH 138 = 10 from kn_138]; rfl)
theorem q_167_49 {d : Nat} (v1 v2 v3 s0 : Int) (M : ZM) : Q d 167 49 [zR 138, zI v1, zI v2, zI v3] [zI s0] M = if s0 ≠ v1 then (Q d 167 2 [zR 138, zI v1, zI v2, zI (zw (v3 + 1))] [] M) else (Rt (some (zI v3)) M) := by
  refine Eq.trans (s_iloadn f_167_49 rfl) ?_
  refine Eq.trans (s_icmp (P := s0 ≠ v1) 55 f_167_50 (by decide) rfl) (ite_cg (fun h1 => ?_) (fun h1 => ?_))
  · refine Eq.trans (s_iinc f_167_55 rfl rfl) ?_
    refine Eq.trans (s_goto 2 f_167_58 (by decide)) ?_
    rfl
  · refine Eq.trans (s_iloadn f_167_53 rfl) ?_
    exact s_iret f_167_54 t_167
theorem en_167 {d : Nat} (v1 v2 : Int) (M : ZM) : E (d + 1) 167 [zR 138, zI v1, zI v2] M = Q d 167 0 [zR 138, zI v1, zI v2, zU] [] M := e_in (Nat.le_of_ble_eq_true rfl)
-- DungeonBuilderModel.addsCorridor(II)I
theorem q_168_0 {d : Nat} (v1 v2 : Int) (M : ZM) : Q d 168 0 [zR 138, zI v1, zI v2, zU] [] M = Cb (E d 154 [zR 138, zI v1] M) (fun v h => zrun (zevl d) 168 5 [zR 138, zI v1, zI v2, zU] (v.toList ++ []) h) := by
  refine Eq.trans (s_aloadn f_168_0 rfl) ?_
  refine Eq.trans (s_iloadn f_168_1 rfl) ?_
  exact s_call [zR 138, zI v1] [] f_168_2 rfl c_168_88 rfl rfl (Nat.le_of_ble_eq_true rfl) (by show (zkn SH 138 == zown 154) = true; rw [show zkn SH 138 = 10 from kn_138]; rfl)
theorem q_168_5 {d : Nat} (v1 v2 s0 : Int) (M : ZM) : Q d 168 5 [zR 138, zI v1, zI v2, zU] [zI s0] M = if s0 = 0 then (Rt (some (zI (-101))) M) else (Cb (E d 154 [zR 138, zI v2] M) (fun v h => zrun (zevl d) 168 13 [zR 138, zI v1, zI v2, zU] (v.toList ++ []) h)) := by
  refine Eq.trans (s_if (P := s0 = 0) 16 f_168_5 (by decide) rfl) (ite_cg (fun h1 => ?_) (fun h1 => ?_))
  · refine Eq.trans (s_bipush f_168_16) ?_
    exact s_iret f_168_18 t_168
  · refine Eq.trans (s_aloadn f_168_8 rfl) ?_
    refine Eq.trans (s_iloadn f_168_9 rfl) ?_
    exact s_call [zR 138, zI v2] [] f_168_10 rfl c_168_88 rfl rfl (Nat.le_of_ble_eq_true rfl) (by show (zkn SH 138 == zown 154) = true; rw [show zkn SH 138 = 10 from kn_138]; rfl)
theorem q_168_13 {d : Nat} (v1 v2 s0 : Int) (M : ZM) : Q d 168 13 [zR 138, zI v1, zI v2, zU] [zI s0] M = if s0 ≠ 0 then (if v1 ≠ v2 then (Cb (E d 167 [zR 138, zI v1, zI v2] M) (fun v h => zrun (zevl d) 168 33 [zR 138, zI v1, zI v2, zU] (v.toList ++ []) h)) else (Rt (some (zI (-102))) M)) else (Rt (some (zI (-101))) M) := by
  refine Eq.trans (s_if (P := s0 ≠ 0) 19 f_168_13 (by decide) rfl) (ite_cg (fun h1 => ?_) (fun h1 => ?_))
  · refine Eq.trans (s_iloadn f_168_19 rfl) ?_
    refine Eq.trans (s_iloadn f_168_20 rfl) ?_
    refine Eq.trans (s_icmp (P := v1 ≠ v2) 27 f_168_21 (by decide) rfl) (ite_cg (fun h2 => ?_) (fun h2 => ?_))
    · refine Eq.trans (s_aloadn f_168_27 rfl) ?_
      refine Eq.trans (s_iloadn f_168_28 rfl) ?_
      refine Eq.trans (s_iloadn f_168_29 rfl) ?_
      exact s_call [zR 138, zI v1, zI v2] [] f_168_30 rfl c_168_92 rfl rfl (Nat.le_of_ble_eq_true rfl) (by show (zkn SH 138 == zown 167) = true; rw [show zkn SH 138 = 10 from kn_138]; rfl)
    · refine Eq.trans (s_bipush f_168_24) ?_
      exact s_iret f_168_26 t_168
  · refine Eq.trans (s_bipush f_168_16) ?_
    exact s_iret f_168_18 t_168
theorem q_168_33 {d : Nat} (v1 v2 s0 : Int) (M : ZM) : Q d 168 33 [zR 138, zI v1, zI v2, zU] [zI s0] M = if s0 < 0 then (if (M 139 121) ≠ 20 then (if v2 ≤ v1 then (Q d 168 82 [zR 138, zI v1, zI v2, zI (zw (60 + (zw (3 * (M 139 121)))))] [zI v2, zI (zw (60 + (zw (3 * (M 139 121))))), zR 139] M) else (Q d 168 82 [zR 138, zI v1, zI v2, zI (zw (60 + (zw (3 * (M 139 121)))))] [zI v1, zI (zw (60 + (zw (3 * (M 139 121))))), zR 139] M)) else (Rt (some (zI (-103))) M)) else (Rt (some (zI (-106))) M) := by
  refine Eq.trans (s_if (P := s0 < 0) 39 f_168_33 (by decide) rfl) (ite_cg (fun h1 => ?_) (fun h1 => ?_))
  · refine Eq.trans (s_aloadn f_168_39 rfl) ?_
    refine Eq.trans (s_getR f_168_40 g_168_7 (by decide) kn_138 rf_138_0) ?_
    refine Eq.trans (s_bipush f_168_43) ?_
    refine Eq.trans (s_iald f_168_45 kn_139 ln_139) (Eq.trans (if_pos (by decide)) ?_)
    refine Eq.trans (s_bipush f_168_46) ?_
    refine Eq.trans (s_icmp (P := (M 139 121) ≠ 20) 54 f_168_48 (by decide) rfl) (ite_cg (fun h2 => ?_) (fun h2 => ?_))
    · refine Eq.trans (s_bipush f_168_54) ?_
      refine Eq.trans (s_iconst f_168_56) ?_
      refine Eq.trans (s_aloadn f_168_57 rfl) ?_
      refine Eq.trans (s_getR f_168_58 g_168_7 (by decide) kn_138 rf_138_0) ?_
      refine Eq.trans (s_bipush f_168_61) ?_
      refine Eq.trans (s_iald f_168_63 kn_139 ln_139) (Eq.trans (if_pos (by decide)) ?_)
      refine Eq.trans (s_imul f_168_64) ?_
      refine Eq.trans (s_iadd f_168_65) ?_
      refine Eq.trans (s_istoren f_168_66 rfl) ?_
      refine Eq.trans (s_aloadn f_168_67 rfl) ?_
      refine Eq.trans (s_getR f_168_68 g_168_7 (by decide) kn_138 rf_138_0) ?_
      refine Eq.trans (s_iloadn f_168_71 rfl) ?_
      refine Eq.trans (s_iloadn f_168_72 rfl) ?_
      refine Eq.trans (s_iloadn f_168_73 rfl) ?_
      refine Eq.trans (s_icmp (P := v2 ≤ v1) 81 f_168_74 (by decide) rfl) (ite_cg (fun h3 => ?_) (fun h3 => ?_))
      · refine Eq.trans (s_iloadn f_168_81 rfl) ?_
        rfl
      · refine Eq.trans (s_iloadn f_168_77 rfl) ?_
        refine Eq.trans (s_goto 82 f_168_78 (by decide)) ?_
        rfl
    · refine Eq.trans (s_bipush f_168_51) ?_
      exact s_iret f_168_53 t_168
  · refine Eq.trans (s_bipush f_168_36) ?_
    exact s_iret f_168_38 t_168
theorem q_168_82 {d : Nat} (v1 v2 v3 s1 s2 : Int) (M : ZM) : Q d 168 82 [zR 138, zI v1, zI v2, zI v3] [zI s2, zI s1, zR 139] M = if 0 ≤ s1 ∧ s1 < 124 then if v2 ≤ v1 then (if 0 ≤ (zw (v3 + 1)) ∧ (zw (v3 + 1)) < 124 then if 0 ≤ (zw (v3 + 2)) ∧ (zw (v3 + 2)) < 124 then Rt (some (zI (zw (((zwr (zwr (zwr (zwr M 139 s1 s2) 139 (zw (v3 + 1)) v1) 139 (zw (v3 + 2)) (-1)) 139 121 (zw (((zwr (zwr (zwr M 139 s1 s2) 139 (zw (v3 + 1)) v1) 139 (zw (v3 + 2)) (-1)) 139 121) + 1))) 139 121) - 1)))) (zwr (zwr (zwr (zwr M 139 s1 s2) 139 (zw (v3 + 1)) v1) 139 (zw (v3 + 2)) (-1)) 139 121 (zw (((zwr (zwr (zwr M 139 s1 s2) 139 (zw (v3 + 1)) v1) 139 (zw (v3 + 2)) (-1)) 139 121) + 1))) else none else none) else (if 0 ≤ (zw (v3 + 1)) ∧ (zw (v3 + 1)) < 124 then if 0 ≤ (zw (v3 + 2)) ∧ (zw (v3 + 2)) < 124 then Rt (some (zI (zw (((zwr (zwr (zwr (zwr M 139 s1 s2) 139 (zw (v3 + 1)) v2) 139 (zw (v3 + 2)) (-1)) 139 121 (zw (((zwr (zwr (zwr M 139 s1 s2) 139 (zw (v3 + 1)) v2) 139 (zw (v3 + 2)) (-1)) 139 121) + 1))) 139 121) - 1)))) (zwr (zwr (zwr (zwr M 139 s1 s2) 139 (zw (v3 + 1)) v2) 139 (zw (v3 + 2)) (-1)) 139 121 (zw (((zwr (zwr (zwr M 139 s1 s2) 139 (zw (v3 + 1)) v2) 139 (zw (v3 + 2)) (-1)) 139 121) + 1))) else none else none) else none := by
  refine Eq.trans (s_iast f_168_82 kn_139 ln_139) (gd_cg fun h1 => ?_)
  refine Eq.trans (s_aloadn f_168_83 rfl) ?_
  refine Eq.trans (s_getR f_168_84 g_168_7 (by decide) kn_138 rf_138_0) ?_
  refine Eq.trans (s_iloadn f_168_87 rfl) ?_
  refine Eq.trans (s_iconst f_168_88) ?_
  refine Eq.trans (s_iadd f_168_89) ?_
  refine Eq.trans (s_iloadn f_168_90 rfl) ?_
  refine Eq.trans (s_iloadn f_168_91 rfl) ?_
  refine Eq.trans (s_icmp (P := v2 ≤ v1) 99 f_168_92 (by decide) rfl) (ite_cg (fun h2 => ?_) (fun h2 => ?_))
  · refine Eq.trans (s_iloadn f_168_99 rfl) ?_
    refine Eq.trans (s_iast f_168_100 kn_139 ln_139) (gd_cg fun h3 => ?_)
    refine Eq.trans (s_aloadn f_168_101 rfl) ?_
    refine Eq.trans (s_getR f_168_102 g_168_7 (by decide) kn_138 rf_138_0) ?_
    refine Eq.trans (s_iloadn f_168_105 rfl) ?_
    refine Eq.trans (s_iconst f_168_106) ?_
    refine Eq.trans (s_iadd f_168_107) ?_
    refine Eq.trans (s_iconst f_168_108) ?_
    refine Eq.trans (s_iast f_168_109 kn_139 ln_139) (gd_cg fun h4 => ?_)
    refine Eq.trans (s_aloadn f_168_110 rfl) ?_
    refine Eq.trans (s_getR f_168_111 g_168_7 (by decide) kn_138 rf_138_0) ?_
    refine Eq.trans (s_bipush f_168_114) ?_
    refine Eq.trans (s_dup2 f_168_116 ⟨rfl, rfl⟩) ?_
    refine Eq.trans (s_iald f_168_117 kn_139 ln_139) (Eq.trans (if_pos (by decide)) ?_)
    refine Eq.trans (s_iconst f_168_118) ?_
    refine Eq.trans (s_iadd f_168_119) ?_
    refine Eq.trans (s_iast f_168_120 kn_139 ln_139) (Eq.trans (if_pos (by decide)) ?_)
    refine Eq.trans (s_aloadn f_168_121 rfl) ?_
    refine Eq.trans (s_getR f_168_122 g_168_7 (by decide) kn_138 rf_138_0) ?_
    refine Eq.trans (s_bipush f_168_125) ?_
    refine Eq.trans (s_iald f_168_127 kn_139 ln_139) (Eq.trans (if_pos (by decide)) ?_)
    refine Eq.trans (s_iconst f_168_128) ?_
    refine Eq.trans (s_isub f_168_129) ?_
    exact s_iret f_168_130 t_168
  · refine Eq.trans (s_iloadn f_168_95 rfl) ?_
    refine Eq.trans (s_goto 100 f_168_96 (by decide)) ?_
    refine Eq.trans (s_iast f_168_100 kn_139 ln_139) (gd_cg fun h5 => ?_)
    refine Eq.trans (s_aloadn f_168_101 rfl) ?_
    refine Eq.trans (s_getR f_168_102 g_168_7 (by decide) kn_138 rf_138_0) ?_
    refine Eq.trans (s_iloadn f_168_105 rfl) ?_
    refine Eq.trans (s_iconst f_168_106) ?_
    refine Eq.trans (s_iadd f_168_107) ?_
    refine Eq.trans (s_iconst f_168_108) ?_
    refine Eq.trans (s_iast f_168_109 kn_139 ln_139) (gd_cg fun h6 => ?_)
    refine Eq.trans (s_aloadn f_168_110 rfl) ?_
    refine Eq.trans (s_getR f_168_111 g_168_7 (by decide) kn_138 rf_138_0) ?_
    refine Eq.trans (s_bipush f_168_114) ?_
    refine Eq.trans (s_dup2 f_168_116 ⟨rfl, rfl⟩) ?_
    refine Eq.trans (s_iald f_168_117 kn_139 ln_139) (Eq.trans (if_pos (by decide)) ?_)
    refine Eq.trans (s_iconst f_168_118) ?_
    refine Eq.trans (s_iadd f_168_119) ?_
    refine Eq.trans (s_iast f_168_120 kn_139 ln_139) (Eq.trans (if_pos (by decide)) ?_)
    refine Eq.trans (s_aloadn f_168_121 rfl) ?_
    refine Eq.trans (s_getR f_168_122 g_168_7 (by decide) kn_138 rf_138_0) ?_
    refine Eq.trans (s_bipush f_168_125) ?_
    refine Eq.trans (s_iald f_168_127 kn_139 ln_139) (Eq.trans (if_pos (by decide)) ?_)
    refine Eq.trans (s_iconst f_168_128) ?_
    refine Eq.trans (s_isub f_168_129) ?_
    exact s_iret f_168_130 t_168
theorem en_168 {d : Nat} (v1 v2 : Int) (M : ZM) : E (d + 1) 168 [zR 138, zI v1, zI v2] M = Q d 168 0 [zR 138, zI v1, zI v2, zU] [] M := e_in (Nat.le_of_ble_eq_true rfl)
-- DungeonBuilderModel.told(I)I
theorem q_169_0 {d : Nat} (v0 : Int) (M : ZM) : Q d 169 0 [zI v0] [] M = if v0 ≠ (-1) then (Rt (some (zI v0)) M) else (Rt (some (zI (-104))) M) := by
  refine Eq.trans (s_iloadn f_169_0 rfl) ?_
  refine Eq.trans (s_iconst f_169_1) ?_
  refine Eq.trans (s_icmp (P := v0 ≠ (-1)) 10 f_169_2 (by decide) rfl) (ite_cg (fun h1 => ?_) (fun h1 => ?_))
  · refine Eq.trans (s_iloadn f_169_10 rfl) ?_
    exact s_iret f_169_11 t_169
  · refine Eq.trans (s_bipush f_169_5) ?_
    refine Eq.trans (s_goto 11 f_169_7 (by decide)) ?_
    exact s_iret f_169_11 t_169
theorem en_169 {d : Nat} (v0 : Int) (M : ZM) : E (d + 1) 169 [zI v0] M = Q d 169 0 [zI v0] [] M := e_in (Nat.le_of_ble_eq_true rfl)
-- DungeonBuilderModel.setsLock(II)I
theorem q_170_0 {d : Nat} (v1 v2 : Int) (M : ZM) : Q d 170 0 [zR 138, zI v1, zI v2, zU] [] M = Cb (E d 155 [zR 138, zI v1] M) (fun v h => zrun (zevl d) 170 5 [zR 138, zI v1, zI v2, zU] (v.toList ++ []) h) := by
  refine Eq.trans (s_aloadn f_170_0 rfl) ?_
  refine Eq.trans (s_iloadn f_170_1 rfl) ?_
  exact s_call [zR 138, zI v1] [] f_170_2 rfl c_170_95 rfl rfl (Nat.le_of_ble_eq_true rfl) (by show (zkn SH 138 == zown 155) = true; rw [show zkn SH 138 = 10 from kn_138]; rfl)
theorem q_170_5 {d : Nat} (v1 v2 s0 : Int) (M : ZM) : Q d 170 5 [zR 138, zI v1, zI v2, zU] [zI s0] M = if s0 ≠ 0 then (Cb (E d 153 [zI v2, zI (-1), zI 5] M) (fun v h => zrun (zevl d) 170 17 [zR 138, zI v1, zI v2, zU] (v.toList ++ []) h)) else (Rt (some (zI (-101))) M) := by
  refine Eq.trans (s_if (P := s0 ≠ 0) 11 f_170_5 (by decide) rfl) (ite_cg (fun h1 => ?_) (fun h1 => ?_))
  · refine Eq.trans (s_iloadn f_170_11 rfl) ?_
    refine Eq.trans (s_iconst f_170_12) ?_
    refine Eq.trans (s_iconst f_170_13) ?_
    exact s_call [zI v2, zI (-1), zI 5] [] f_170_14 rfl c_170_58 rfl rfl (Nat.le_of_ble_eq_true rfl) rfl
  · refine Eq.trans (s_bipush f_170_8) ?_
    exact s_iret f_170_10 t_170
theorem q_170_17 {d : Nat} (v1 v2 s0 : Int) (M : ZM) : Q d 170 17 [zR 138, zI v1, zI v2, zU] [zI s0] M = if s0 ≠ 0 then (Cb (E d 157 [zR 138, zI v1, zI 2] M) (fun v h => zrun (zevl d) 170 29 [zR 138, zI v1, zI v2, zU] (v.toList ++ []) h)) else (Rt (some (zI (-102))) M) := by
  refine Eq.trans (s_if (P := s0 ≠ 0) 23 f_170_17 (by decide) rfl) (ite_cg (fun h1 => ?_) (fun h1 => ?_))
  · refine Eq.trans (s_aloadn f_170_23 rfl) ?_
    refine Eq.trans (s_iloadn f_170_24 rfl) ?_
    refine Eq.trans (s_iconst f_170_25) ?_
    exact s_call [zR 138, zI v1, zI 2] [] f_170_26 rfl c_170_85 rfl rfl (Nat.le_of_ble_eq_true rfl) (by show (zkn SH 138 == zown 157) = true; rw [show zkn SH 138 = 10 from kn_138]; rfl)
  · refine Eq.trans (s_bipush f_170_20) ?_
    exact s_iret f_170_22 t_170
theorem q_170_29 {d : Nat} (v1 v2 s0 : Int) (M : ZM) : Q d 170 29 [zR 138, zI v1, zI v2, zU] [zI s0] M = if 0 ≤ (zw ((zw (60 + (zw (3 * v1)))) + 2)) ∧ (zw ((zw (60 + (zw (3 * v1)))) + 2)) < 124 then Cb (E d 169 [zI s0] (zwr M 139 (zw ((zw (60 + (zw (3 * v1)))) + 2)) v2)) (fun v h => zrun (zevl d) 170 48 [zR 138, zI v1, zI v2, zI s0] (v.toList ++ []) h) else none := by
  refine Eq.trans (s_istoren f_170_29 rfl) ?_
  refine Eq.trans (s_aloadn f_170_30 rfl) ?_
  refine Eq.trans (s_getR f_170_31 g_170_7 (by decide) kn_138 rf_138_0) ?_
  refine Eq.trans (s_bipush f_170_34) ?_
  refine Eq.trans (s_iconst f_170_36) ?_
  refine Eq.trans (s_iloadn f_170_37 rfl) ?_
  refine Eq.trans (s_imul f_170_38) ?_
  refine Eq.trans (s_iadd f_170_39) ?_
  refine Eq.trans (s_iconst f_170_40) ?_
  refine Eq.trans (s_iadd f_170_41) ?_
  refine Eq.trans (s_iloadn f_170_42 rfl) ?_
  refine Eq.trans (s_iast f_170_43 kn_139 ln_139) (gd_cg fun h1 => ?_)
  refine Eq.trans (s_iloadn f_170_44 rfl) ?_
  exact s_call [zI s0] [] f_170_45 rfl c_170_98 rfl rfl (Nat.le_of_ble_eq_true rfl) rfl
theorem q_170_48 {d : Nat} (v1 v2 v3 s0 : Int) (M : ZM) : Q d 170 48 [zR 138, zI v1, zI v2, zI v3] [zI s0] M = Rt (some (zI s0)) M := by
  exact s_iret f_170_48 t_170
theorem en_170 {d : Nat} (v1 v2 : Int) (M : ZM) : E (d + 1) 170 [zR 138, zI v1, zI v2] M = Q d 170 0 [zR 138, zI v1, zI v2, zU] [] M := e_in (Nat.le_of_ble_eq_true rfl)
-- DungeonBuilderModel.setsKey(II)I
theorem q_171_0 {d : Nat} (v1 v2 : Int) (M : ZM) : Q d 171 0 [zR 138, zI v1, zI v2, zU] [] M = Cb (E d 154 [zR 138, zI v1] M) (fun v h => zrun (zevl d) 171 5 [zR 138, zI v1, zI v2, zU] (v.toList ++ []) h) := by
  refine Eq.trans (s_aloadn f_171_0 rfl) ?_
  refine Eq.trans (s_iloadn f_171_1 rfl) ?_
  exact s_call [zR 138, zI v1] [] f_171_2 rfl c_171_88 rfl rfl (Nat.le_of_ble_eq_true rfl) (by show (zkn SH 138 == zown 154) = true; rw [show zkn SH 138 = 10 from kn_138]; rfl)
theorem q_171_5 {d : Nat} (v1 v2 s0 : Int) (M : ZM) : Q d 171 5 [zR 138, zI v1, zI v2, zU] [zI s0] M = if s0 ≠ 0 then (Cb (E d 153 [zI v2, zI (-1), zI 5] M) (fun v h => zrun (zevl d) 171 17 [zR 138, zI v1, zI v2, zU] (v.toList ++ []) h)) else (Rt (some (zI (-101))) M) := by
  refine Eq.trans (s_if (P := s0 ≠ 0) 11 f_171_5 (by decide) rfl) (ite_cg (fun h1 => ?_) (fun h1 => ?_))
  · refine Eq.trans (s_iloadn f_171_11 rfl) ?_
    refine Eq.trans (s_iconst f_171_12) ?_
    refine Eq.trans (s_iconst f_171_13) ?_
    exact s_call [zI v2, zI (-1), zI 5] [] f_171_14 rfl c_171_58 rfl rfl (Nat.le_of_ble_eq_true rfl) rfl
  · refine Eq.trans (s_bipush f_171_8) ?_
    exact s_iret f_171_10 t_171
theorem q_171_17 {d : Nat} (v1 v2 s0 : Int) (M : ZM) : Q d 171 17 [zR 138, zI v1, zI v2, zU] [zI s0] M = if s0 ≠ 0 then (Cb (E d 156 [zR 138, zI v1, zI 4] M) (fun v h => zrun (zevl d) 171 29 [zR 138, zI v1, zI v2, zU] (v.toList ++ []) h)) else (Rt (some (zI (-102))) M) := by
  refine Eq.trans (s_if (P := s0 ≠ 0) 23 f_171_17 (by decide) rfl) (ite_cg (fun h1 => ?_) (fun h1 => ?_))
  · refine Eq.trans (s_aloadn f_171_23 rfl) ?_
    refine Eq.trans (s_iloadn f_171_24 rfl) ?_
    refine Eq.trans (s_iconst f_171_25) ?_
    exact s_call [zR 138, zI v1, zI 4] [] f_171_26 rfl c_171_62 rfl rfl (Nat.le_of_ble_eq_true rfl) (by show (zkn SH 138 == zown 156) = true; rw [show zkn SH 138 = 10 from kn_138]; rfl)
  · refine Eq.trans (s_bipush f_171_20) ?_
    exact s_iret f_171_22 t_171
theorem q_171_29 {d : Nat} (v1 v2 s0 : Int) (M : ZM) : Q d 171 29 [zR 138, zI v1, zI v2, zU] [zI s0] M = if 0 ≤ (zw ((zw (0 + (zw (5 * v1)))) + 4)) ∧ (zw ((zw (0 + (zw (5 * v1)))) + 4)) < 124 then Cb (E d 169 [zI s0] (zwr M 139 (zw ((zw (0 + (zw (5 * v1)))) + 4)) v2)) (fun v h => zrun (zevl d) 171 47 [zR 138, zI v1, zI v2, zI s0] (v.toList ++ []) h) else none := by
  refine Eq.trans (s_istoren f_171_29 rfl) ?_
  refine Eq.trans (s_aloadn f_171_30 rfl) ?_
  refine Eq.trans (s_getR f_171_31 g_171_7 (by decide) kn_138 rf_138_0) ?_
  refine Eq.trans (s_iconst f_171_34) ?_
  refine Eq.trans (s_iconst f_171_35) ?_
  refine Eq.trans (s_iloadn f_171_36 rfl) ?_
  refine Eq.trans (s_imul f_171_37) ?_
  refine Eq.trans (s_iadd f_171_38) ?_
  refine Eq.trans (s_iconst f_171_39) ?_
  refine Eq.trans (s_iadd f_171_40) ?_
  refine Eq.trans (s_iloadn f_171_41 rfl) ?_
  refine Eq.trans (s_iast f_171_42 kn_139 ln_139) (gd_cg fun h1 => ?_)
  refine Eq.trans (s_iloadn f_171_43 rfl) ?_
  exact s_call [zI s0] [] f_171_44 rfl c_171_98 rfl rfl (Nat.le_of_ble_eq_true rfl) rfl
theorem q_171_47 {d : Nat} (v1 v2 v3 s0 : Int) (M : ZM) : Q d 171 47 [zR 138, zI v1, zI v2, zI v3] [zI s0] M = Rt (some (zI s0)) M := by
  exact s_iret f_171_47 t_171
theorem en_171 {d : Nat} (v1 v2 : Int) (M : ZM) : E (d + 1) 171 [zR 138, zI v1, zI v2] M = Q d 171 0 [zR 138, zI v1, zI v2, zU] [] M := e_in (Nat.le_of_ble_eq_true rfl)
-- DungeonBuilderModel.setsEntrance(I)I
theorem q_172_0 {d : Nat} (v1 : Int) (M : ZM) : Q d 172 0 [zR 138, zI v1, zU] [] M = Cb (E d 154 [zR 138, zI v1] M) (fun v h => zrun (zevl d) 172 5 [zR 138, zI v1, zU] (v.toList ++ []) h) := by
  refine Eq.trans (s_aloadn f_172_0 rfl) ?_
  refine Eq.trans (s_iloadn f_172_1 rfl) ?_
  exact s_call [zR 138, zI v1] [] f_172_2 rfl c_172_88 rfl rfl (Nat.le_of_ble_eq_true rfl) (by show (zkn SH 138 == zown 154) = true; rw [show zkn SH 138 = 10 from kn_138]; rfl)
theorem q_172_5 {d : Nat} (v1 s0 : Int) (M : ZM) : Q d 172 5 [zR 138, zI v1, zU] [zI s0] M = if s0 ≠ 0 then (Rt (some (zI (M 139 122))) (zwr M 139 122 v1)) else (Rt (some (zI (-101))) M) := by
  refine Eq.trans (s_if (P := s0 ≠ 0) 11 f_172_5 (by decide) rfl) (ite_cg (fun h1 => ?_) (fun h1 => ?_))
  · refine Eq.trans (s_aloadn f_172_11 rfl) ?_
    refine Eq.trans (s_getR f_172_12 g_172_7 (by decide) kn_138 rf_138_0) ?_
    refine Eq.trans (s_bipush f_172_15) ?_
    refine Eq.trans (s_iald f_172_17 kn_139 ln_139) (Eq.trans (if_pos (by decide)) ?_)
    refine Eq.trans (s_istoren f_172_18 rfl) ?_
    refine Eq.trans (s_aloadn f_172_19 rfl) ?_
    refine Eq.trans (s_getR f_172_20 g_172_7 (by decide) kn_138 rf_138_0) ?_
    refine Eq.trans (s_bipush f_172_23) ?_
    refine Eq.trans (s_iloadn f_172_25 rfl) ?_
    refine Eq.trans (s_iast f_172_26 kn_139 ln_139) (Eq.trans (if_pos (by decide)) ?_)
    refine Eq.trans (s_iloadn f_172_27 rfl) ?_
    exact s_iret f_172_28 t_172
  · refine Eq.trans (s_bipush f_172_8) ?_
    exact s_iret f_172_10 t_172
theorem en_172 {d : Nat} (v1 : Int) (M : ZM) : E (d + 1) 172 [zR 138, zI v1] M = Q d 172 0 [zR 138, zI v1, zU] [] M := e_in (Nat.le_of_ble_eq_true rfl)
-- DungeonBuilderModel.cutsCorridor(I)V
theorem q_173_0 {d : Nat} (v1 : Int) (M : ZM) : Q d 173 0 [zR 138, zI v1, zU] [] M = Q d 173 18 [zR 138, zI v1, zI (zw (60 + (zw (3 * v1))))] [] (zwr M 139 121 (zw ((M 139 121) - 1))) := by
  refine Eq.trans (s_aloadn f_173_0 rfl) ?_
  refine Eq.trans (s_getR f_173_1 g_173_7 (by decide) kn_138 rf_138_0) ?_
  refine Eq.trans (s_bipush f_173_4) ?_
  refine Eq.trans (s_dup2 f_173_6 ⟨rfl, rfl⟩) ?_
  refine Eq.trans (s_iald f_173_7 kn_139 ln_139) (Eq.trans (if_pos (by decide)) ?_)
  refine Eq.trans (s_iconst f_173_8) ?_
  refine Eq.trans (s_isub f_173_9) ?_
  refine Eq.trans (s_iast f_173_10 kn_139 ln_139) (Eq.trans (if_pos (by decide)) ?_)
  refine Eq.trans (s_bipush f_173_11) ?_
  refine Eq.trans (s_iconst f_173_13) ?_
  refine Eq.trans (s_iloadn f_173_14 rfl) ?_
  refine Eq.trans (s_imul f_173_15) ?_
  refine Eq.trans (s_iadd f_173_16) ?_
  refine Eq.trans (s_istoren f_173_17 rfl) ?_
  rfl
theorem q_173_18 {d : Nat} (v1 v2 : Int) (M : ZM) : Q d 173 18 [zR 138, zI v1, zI v2] [] M = if (zw (60 + (zw (3 * (M 139 121))))) ≤ v2 then (Rt none M) else (if 0 ≤ (zw (v2 + 3)) ∧ (zw (v2 + 3)) < 124 then if 0 ≤ v2 ∧ v2 < 124 then Q d 173 18 [zR 138, zI v1, zI (zw (v2 + 1))] [] (zwr M 139 v2 (M 139 (zw (v2 + 3)))) else none else none) := by
  refine Eq.trans (s_iloadn f_173_18 rfl) ?_
  refine Eq.trans (s_bipush f_173_19) ?_
  refine Eq.trans (s_iconst f_173_21) ?_
  refine Eq.trans (s_aloadn f_173_22 rfl) ?_
  refine Eq.trans (s_getR f_173_23 g_173_7 (by decide) kn_138 rf_138_0) ?_
  refine Eq.trans (s_bipush f_173_26) ?_
  refine Eq.trans (s_iald f_173_28 kn_139 ln_139) (Eq.trans (if_pos (by decide)) ?_)
  refine Eq.trans (s_imul f_173_29) ?_
  refine Eq.trans (s_iadd f_173_30) ?_
  refine Eq.trans (s_icmp (P := (zw (60 + (zw (3 * (M 139 121))))) ≤ v2) 54 f_173_31 (by decide) rfl) (ite_cg (fun h1 => ?_) (fun h1 => ?_))
  · exact s_vret f_173_54 t_173
  · refine Eq.trans (s_aloadn f_173_34 rfl) ?_
    refine Eq.trans (s_getR f_173_35 g_173_7 (by decide) kn_138 rf_138_0) ?_
    refine Eq.trans (s_iloadn f_173_38 rfl) ?_
    refine Eq.trans (s_aloadn f_173_39 rfl) ?_
    refine Eq.trans (s_getR f_173_40 g_173_7 (by decide) kn_138 rf_138_0) ?_
    refine Eq.trans (s_iloadn f_173_43 rfl) ?_
    refine Eq.trans (s_iconst f_173_44) ?_
    refine Eq.trans (s_iadd f_173_45) ?_
    refine Eq.trans (s_iald f_173_46 kn_139 ln_139) (gd_cg fun h2 => ?_)
    refine Eq.trans (s_iast f_173_47 kn_139 ln_139) (gd_cg fun h3 => ?_)
    refine Eq.trans (s_iinc f_173_48 rfl rfl) ?_
    refine Eq.trans (s_goto 18 f_173_51 (by decide)) ?_
    rfl
theorem en_173 {d : Nat} (v1 : Int) (M : ZM) : E (d + 1) 173 [zR 138, zI v1] M = Q d 173 0 [zR 138, zI v1, zU] [] M := e_in (Nat.le_of_ble_eq_true rfl)
-- DungeonBuilderModel.addRoom(IIII)I
theorem q_174_0 {d : Nat} (v1 v2 v3 v4 : Int) (M : ZM) : Q d 174 0 [zR 138, zI v1, zI v2, zI v3, zI v4] [] M = Cb (E d 162 [zR 138] M) (fun v h => zrun (zevl d) 174 4 [zR 138, zI v1, zI v2, zI v3, zI v4] (v.toList ++ []) h) := by
  refine Eq.trans (s_aloadn f_174_0 rfl) ?_
  exact s_call [zR 138] [] f_174_1 rfl c_174_101 rfl rfl (Nat.le_of_ble_eq_true rfl) (by show (zkn SH 138 == zown 162) = true; rw [show zkn SH 138 = 10 from kn_138]; rfl)
theorem q_174_4 {d : Nat} (v1 v2 v3 v4 : Int) (M : ZM) : Q d 174 4 [zR 138, zI v1, zI v2, zI v3, zI v4] [] M = Cb (E d 166 [zR 138, zI v1, zI v2, zI v3, zI v4] M) (fun v h => zrun (zevl d) 174 14 [zR 138, zI v1, zI v2, zI v3, zI v4] (v.toList ++ [zR 138]) h) := by
  refine Eq.trans (s_aloadn f_174_4 rfl) ?_
  refine Eq.trans (s_aloadn f_174_5 rfl) ?_
  refine Eq.trans (s_iloadn f_174_6 rfl) ?_
  refine Eq.trans (s_iloadn f_174_7 rfl) ?_
  refine Eq.trans (s_iloadn f_174_8 rfl) ?_
  refine Eq.trans (s_iload f_174_9 rfl) ?_
  exact s_call [zR 138, zI v1, zI v2, zI v3, zI v4] [zR 138] f_174_11 rfl c_174_104 rfl rfl (Nat.le_of_ble_eq_true rfl) (by show (zkn SH 138 == zown 166) = true; rw [show zkn SH 138 = 10 from kn_138]; rfl)
theorem q_174_14 {d : Nat} (v1 v2 v3 v4 s1 : Int) (M : ZM) : Q d 174 14 [zR 138, zI v1, zI v2, zI v3, zI v4] [zI s1, zR 138] M = Cb (E d 164 [zR 138, zI s1] M) (fun v h => zrun (zevl d) 174 17 [zR 138, zI v1, zI v2, zI v3, zI v4] (v.toList ++ []) h) := by
  exact s_call [zR 138, zI s1] [] f_174_14 rfl c_174_108 rfl rfl (Nat.le_of_ble_eq_true rfl) (by show (zkn SH 138 == zown 164) = true; rw [show zkn SH 138 = 10 from kn_138]; rfl)
theorem q_174_17 {d : Nat} (v1 v2 v3 v4 s0 : Int) (M : ZM) : Q d 174 17 [zR 138, zI v1, zI v2, zI v3, zI v4] [zI s0] M = Rt (some (zI s0)) M := by
  exact s_iret f_174_17 t_174
theorem en_174 {d : Nat} (v1 v2 v3 v4 : Int) (M : ZM) : E (d + 1) 174 [zR 138, zI v1, zI v2, zI v3, zI v4] M = Q d 174 0 [zR 138, zI v1, zI v2, zI v3, zI v4] [] M := e_in (Nat.le_of_ble_eq_true rfl)
-- DungeonBuilderModel.addCorridor(II)I
theorem q_175_0 {d : Nat} (v1 v2 : Int) (M : ZM) : Q d 175 0 [zR 138, zI v1, zI v2] [] M = Cb (E d 162 [zR 138] M) (fun v h => zrun (zevl d) 175 4 [zR 138, zI v1, zI v2] (v.toList ++ []) h) := by
  refine Eq.trans (s_aloadn f_175_0 rfl) ?_
  exact s_call [zR 138] [] f_175_1 rfl c_175_101 rfl rfl (Nat.le_of_ble_eq_true rfl) (by show (zkn SH 138 == zown 162) = true; rw [show zkn SH 138 = 10 from kn_138]; rfl)
theorem q_175_4 {d : Nat} (v1 v2 : Int) (M : ZM) : Q d 175 4 [zR 138, zI v1, zI v2] [] M = Cb (E d 168 [zR 138, zI v1, zI v2] M) (fun v h => zrun (zevl d) 175 11 [zR 138, zI v1, zI v2] (v.toList ++ [zR 138]) h) := by
  refine Eq.trans (s_aloadn f_175_4 rfl) ?_
  refine Eq.trans (s_aloadn f_175_5 rfl) ?_
  refine Eq.trans (s_iloadn f_175_6 rfl) ?_
  refine Eq.trans (s_iloadn f_175_7 rfl) ?_
  exact s_call [zR 138, zI v1, zI v2] [zR 138] f_175_8 rfl c_175_111 rfl rfl (Nat.le_of_ble_eq_true rfl) (by show (zkn SH 138 == zown 168) = true; rw [show zkn SH 138 = 10 from kn_138]; rfl)
theorem q_175_11 {d : Nat} (v1 v2 s1 : Int) (M : ZM) : Q d 175 11 [zR 138, zI v1, zI v2] [zI s1, zR 138] M = Cb (E d 164 [zR 138, zI s1] M) (fun v h => zrun (zevl d) 175 14 [zR 138, zI v1, zI v2] (v.toList ++ []) h) := by
  exact s_call [zR 138, zI s1] [] f_175_11 rfl c_175_108 rfl rfl (Nat.le_of_ble_eq_true rfl) (by show (zkn SH 138 == zown 164) = true; rw [show zkn SH 138 = 10 from kn_138]; rfl)
theorem q_175_14 {d : Nat} (v1 v2 s0 : Int) (M : ZM) : Q d 175 14 [zR 138, zI v1, zI v2] [zI s0] M = Rt (some (zI s0)) M := by
  exact s_iret f_175_14 t_175
theorem en_175 {d : Nat} (v1 v2 : Int) (M : ZM) : E (d + 1) 175 [zR 138, zI v1, zI v2] M = Q d 175 0 [zR 138, zI v1, zI v2] [] M := e_in (Nat.le_of_ble_eq_true rfl)
-- DungeonBuilderModel.setLock(II)I
theorem q_176_0 {d : Nat} (v1 v2 : Int) (M : ZM) : Q d 176 0 [zR 138, zI v1, zI v2] [] M = Cb (E d 162 [zR 138] M) (fun v h => zrun (zevl d) 176 4 [zR 138, zI v1, zI v2] (v.toList ++ []) h) := by
  refine Eq.trans (s_aloadn f_176_0 rfl) ?_
  exact s_call [zR 138] [] f_176_1 rfl c_176_101 rfl rfl (Nat.le_of_ble_eq_true rfl) (by show (zkn SH 138 == zown 162) = true; rw [show zkn SH 138 = 10 from kn_138]; rfl)
theorem q_176_4 {d : Nat} (v1 v2 : Int) (M : ZM) : Q d 176 4 [zR 138, zI v1, zI v2] [] M = Cb (E d 170 [zR 138, zI v1, zI v2] M) (fun v h => zrun (zevl d) 176 11 [zR 138, zI v1, zI v2] (v.toList ++ [zR 138]) h) := by
  refine Eq.trans (s_aloadn f_176_4 rfl) ?_
  refine Eq.trans (s_aloadn f_176_5 rfl) ?_
  refine Eq.trans (s_iloadn f_176_6 rfl) ?_
  refine Eq.trans (s_iloadn f_176_7 rfl) ?_
  exact s_call [zR 138, zI v1, zI v2] [zR 138] f_176_8 rfl c_176_114 rfl rfl (Nat.le_of_ble_eq_true rfl) (by show (zkn SH 138 == zown 170) = true; rw [show zkn SH 138 = 10 from kn_138]; rfl)
theorem q_176_11 {d : Nat} (v1 v2 s1 : Int) (M : ZM) : Q d 176 11 [zR 138, zI v1, zI v2] [zI s1, zR 138] M = Cb (E d 164 [zR 138, zI s1] M) (fun v h => zrun (zevl d) 176 14 [zR 138, zI v1, zI v2] (v.toList ++ []) h) := by
  exact s_call [zR 138, zI s1] [] f_176_11 rfl c_176_108 rfl rfl (Nat.le_of_ble_eq_true rfl) (by show (zkn SH 138 == zown 164) = true; rw [show zkn SH 138 = 10 from kn_138]; rfl)
theorem q_176_14 {d : Nat} (v1 v2 s0 : Int) (M : ZM) : Q d 176 14 [zR 138, zI v1, zI v2] [zI s0] M = Rt (some (zI s0)) M := by
  exact s_iret f_176_14 t_176
theorem en_176 {d : Nat} (v1 v2 : Int) (M : ZM) : E (d + 1) 176 [zR 138, zI v1, zI v2] M = Q d 176 0 [zR 138, zI v1, zI v2] [] M := e_in (Nat.le_of_ble_eq_true rfl)
-- DungeonBuilderModel.setKey(II)I
theorem q_177_0 {d : Nat} (v1 v2 : Int) (M : ZM) : Q d 177 0 [zR 138, zI v1, zI v2] [] M = Cb (E d 162 [zR 138] M) (fun v h => zrun (zevl d) 177 4 [zR 138, zI v1, zI v2] (v.toList ++ []) h) := by
  refine Eq.trans (s_aloadn f_177_0 rfl) ?_
  exact s_call [zR 138] [] f_177_1 rfl c_177_101 rfl rfl (Nat.le_of_ble_eq_true rfl) (by show (zkn SH 138 == zown 162) = true; rw [show zkn SH 138 = 10 from kn_138]; rfl)
theorem q_177_4 {d : Nat} (v1 v2 : Int) (M : ZM) : Q d 177 4 [zR 138, zI v1, zI v2] [] M = Cb (E d 171 [zR 138, zI v1, zI v2] M) (fun v h => zrun (zevl d) 177 11 [zR 138, zI v1, zI v2] (v.toList ++ [zR 138]) h) := by
  refine Eq.trans (s_aloadn f_177_4 rfl) ?_
  refine Eq.trans (s_aloadn f_177_5 rfl) ?_
  refine Eq.trans (s_iloadn f_177_6 rfl) ?_
  refine Eq.trans (s_iloadn f_177_7 rfl) ?_
  exact s_call [zR 138, zI v1, zI v2] [zR 138] f_177_8 rfl c_177_117 rfl rfl (Nat.le_of_ble_eq_true rfl) (by show (zkn SH 138 == zown 171) = true; rw [show zkn SH 138 = 10 from kn_138]; rfl)
theorem q_177_11 {d : Nat} (v1 v2 s1 : Int) (M : ZM) : Q d 177 11 [zR 138, zI v1, zI v2] [zI s1, zR 138] M = Cb (E d 164 [zR 138, zI s1] M) (fun v h => zrun (zevl d) 177 14 [zR 138, zI v1, zI v2] (v.toList ++ []) h) := by
  exact s_call [zR 138, zI s1] [] f_177_11 rfl c_177_108 rfl rfl (Nat.le_of_ble_eq_true rfl) (by show (zkn SH 138 == zown 164) = true; rw [show zkn SH 138 = 10 from kn_138]; rfl)
theorem q_177_14 {d : Nat} (v1 v2 s0 : Int) (M : ZM) : Q d 177 14 [zR 138, zI v1, zI v2] [zI s0] M = Rt (some (zI s0)) M := by
  exact s_iret f_177_14 t_177
theorem en_177 {d : Nat} (v1 v2 : Int) (M : ZM) : E (d + 1) 177 [zR 138, zI v1, zI v2] M = Q d 177 0 [zR 138, zI v1, zI v2] [] M := e_in (Nat.le_of_ble_eq_true rfl)
-- DungeonBuilderModel.setEntrance(I)I
theorem q_178_0 {d : Nat} (v1 : Int) (M : ZM) : Q d 178 0 [zR 138, zI v1] [] M = Cb (E d 162 [zR 138] M) (fun v h => zrun (zevl d) 178 4 [zR 138, zI v1] (v.toList ++ []) h) := by
  refine Eq.trans (s_aloadn f_178_0 rfl) ?_
  exact s_call [zR 138] [] f_178_1 rfl c_178_101 rfl rfl (Nat.le_of_ble_eq_true rfl) (by show (zkn SH 138 == zown 162) = true; rw [show zkn SH 138 = 10 from kn_138]; rfl)
theorem q_178_4 {d : Nat} (v1 : Int) (M : ZM) : Q d 178 4 [zR 138, zI v1] [] M = Cb (E d 172 [zR 138, zI v1] M) (fun v h => zrun (zevl d) 178 10 [zR 138, zI v1] (v.toList ++ [zR 138]) h) := by
  refine Eq.trans (s_aloadn f_178_4 rfl) ?_
  refine Eq.trans (s_aloadn f_178_5 rfl) ?_
  refine Eq.trans (s_iloadn f_178_6 rfl) ?_
  exact s_call [zR 138, zI v1] [zR 138] f_178_7 rfl c_178_120 rfl rfl (Nat.le_of_ble_eq_true rfl) (by show (zkn SH 138 == zown 172) = true; rw [show zkn SH 138 = 10 from kn_138]; rfl)
theorem q_178_10 {d : Nat} (v1 s1 : Int) (M : ZM) : Q d 178 10 [zR 138, zI v1] [zI s1, zR 138] M = Cb (E d 164 [zR 138, zI s1] M) (fun v h => zrun (zevl d) 178 13 [zR 138, zI v1] (v.toList ++ []) h) := by
  exact s_call [zR 138, zI s1] [] f_178_10 rfl c_178_108 rfl rfl (Nat.le_of_ble_eq_true rfl) (by show (zkn SH 138 == zown 164) = true; rw [show zkn SH 138 = 10 from kn_138]; rfl)
theorem q_178_13 {d : Nat} (v1 s0 : Int) (M : ZM) : Q d 178 13 [zR 138, zI v1] [zI s0] M = Rt (some (zI s0)) M := by
  exact s_iret f_178_13 t_178
theorem en_178 {d : Nat} (v1 : Int) (M : ZM) : E (d + 1) 178 [zR 138, zI v1] M = Q d 178 0 [zR 138, zI v1] [] M := e_in (Nat.le_of_ble_eq_true rfl)
-- DungeonBuilderModel.removeRoom(I)I
theorem q_179_0 {d : Nat} (v1 : Int) (M : ZM) : Q d 179 0 [zR 138, zI v1, zU, zU] [] M = Cb (E d 154 [zR 138, zI v1] M) (fun v h => zrun (zevl d) 179 5 [zR 138, zI v1, zU, zU] (v.toList ++ []) h) := by
  refine Eq.trans (s_aloadn f_179_0 rfl) ?_
  refine Eq.trans (s_iloadn f_179_1 rfl) ?_
  exact s_call [zR 138, zI v1] [] f_179_2 rfl c_179_88 rfl rfl (Nat.le_of_ble_eq_true rfl) (by show (zkn SH 138 == zown 154) = true; rw [show zkn SH 138 = 10 from kn_138]; rfl)
theorem q_179_5 {d : Nat} (v1 s0 : Int) (M : ZM) : Q d 179 5 [zR 138, zI v1, zU, zU] [zI s0] M = if s0 ≠ 0 then (Cb (E d 162 [zR 138] M) (fun v h => zrun (zevl d) 179 15 [zR 138, zI v1, zU, zU] (v.toList ++ []) h)) else (Rt (some (zI (-101))) M) := by
  refine Eq.trans (s_if (P := s0 ≠ 0) 11 f_179_5 (by decide) rfl) (ite_cg (fun h1 => ?_) (fun h1 => ?_))
  · refine Eq.trans (s_aloadn f_179_11 rfl) ?_
    exact s_call [zR 138] [] f_179_12 rfl c_179_101 rfl rfl (Nat.le_of_ble_eq_true rfl) (by show (zkn SH 138 == zown 162) = true; rw [show zkn SH 138 = 10 from kn_138]; rfl)
  · refine Eq.trans (s_bipush f_179_8) ?_
    exact s_iret f_179_10 t_179
theorem q_179_15 {d : Nat} (v1 : Int) (M : ZM) : Q d 179 15 [zR 138, zI v1, zU, zU] [] M = Q d 179 25 [zR 138, zI v1, zI (zw ((M 139 121) - 1)), zU] [] M := by
  refine Eq.trans (s_aloadn f_179_15 rfl) ?_
  refine Eq.trans (s_getR f_179_16 g_179_7 (by decide) kn_138 rf_138_0) ?_
  refine Eq.trans (s_bipush f_179_19) ?_
  refine Eq.trans (s_iald f_179_21 kn_139 ln_139) (Eq.trans (if_pos (by decide)) ?_)
  refine Eq.trans (s_iconst f_179_22) ?_
  refine Eq.trans (s_isub f_179_23) ?_
  refine Eq.trans (s_istoren f_179_24 rfl) ?_
  rfl
theorem q_179_25 {d : Nat} (v1 v2 : Int) (M : ZM) : Q d 179 25 [zR 138, zI v1, zI v2, zU] [] M = if v2 < 0 then (Q d 179 62 [zR 138, zI v1, zI 0, zU] [] M) else (Cb (E d 157 [zR 138, zI v2, zI 0] M) (fun v h => zrun (zevl d) 179 35 [zR 138, zI v1, zI v2, zU] (v.toList ++ []) h)) := by
  refine Eq.trans (s_iloadn f_179_25 rfl) ?_
  refine Eq.trans (s_if (P := v2 < 0) 60 f_179_26 (by decide) rfl) (ite_cg (fun h1 => ?_) (fun h1 => ?_))
  · refine Eq.trans (s_iconst f_179_60) ?_
    refine Eq.trans (s_istoren f_179_61 rfl) ?_
    rfl
  · refine Eq.trans (s_aloadn f_179_29 rfl) ?_
    refine Eq.trans (s_iloadn f_179_30 rfl) ?_
    refine Eq.trans (s_iconst f_179_31) ?_
    exact s_call [zR 138, zI v2, zI 0] [] f_179_32 rfl c_179_85 rfl rfl (Nat.le_of_ble_eq_true rfl) (by show (zkn SH 138 == zown 157) = true; rw [show zkn SH 138 = 10 from kn_138]; rfl)
theorem q_179_35 {d : Nat} (v1 v2 s0 : Int) (M : ZM) : Q d 179 35 [zR 138, zI v1, zI v2, zU] [zI s0] M = if s0 = v1 then (Cb (E d 173 [zR 138, zI v2] M) (fun v h => zrun (zevl d) 179 54 [zR 138, zI v1, zI v2, zU] (v.toList ++ []) h)) else (Cb (E d 157 [zR 138, zI v2, zI 1] M) (fun v h => zrun (zevl d) 179 45 [zR 138, zI v1, zI v2, zU] (v.toList ++ []) h)) := by
  refine Eq.trans (s_iloadn f_179_35 rfl) ?_
  refine Eq.trans (s_icmp (P := s0 = v1) 49 f_179_36 (by decide) rfl) (ite_cg (fun h1 => ?_) (fun h1 => ?_))
  · refine Eq.trans (s_aloadn f_179_49 rfl) ?_
    refine Eq.trans (s_iloadn f_179_50 rfl) ?_
    exact s_call [zR 138, zI v2] [] f_179_51 rfl c_179_123 rfl rfl (Nat.le_of_ble_eq_true rfl) (by show (zkn SH 138 == zown 173) = true; rw [show zkn SH 138 = 10 from kn_138]; rfl)
  · refine Eq.trans (s_aloadn f_179_39 rfl) ?_
    refine Eq.trans (s_iloadn f_179_40 rfl) ?_
    refine Eq.trans (s_iconst f_179_41) ?_
    exact s_call [zR 138, zI v2, zI 1] [] f_179_42 rfl c_179_85 rfl rfl (Nat.le_of_ble_eq_true rfl) (by show (zkn SH 138 == zown 157) = true; rw [show zkn SH 138 = 10 from kn_138]; rfl)
theorem q_179_45 {d : Nat} (v1 v2 s0 : Int) (M : ZM) : Q d 179 45 [zR 138, zI v1, zI v2, zU] [zI s0] M = if s0 ≠ v1 then (Q d 179 54 [zR 138, zI v1, zI v2, zU] [] M) else (Cb (E d 173 [zR 138, zI v2] M) (fun v h => zrun (zevl d) 179 54 [zR 138, zI v1, zI v2, zU] (v.toList ++ []) h)) := by
  refine Eq.trans (s_iloadn f_179_45 rfl) ?_
  refine Eq.trans (s_icmp (P := s0 ≠ v1) 54 f_179_46 (by decide) rfl) (ite_cg (fun h1 => ?_) (fun h1 => ?_))
  · rfl
  · refine Eq.trans (s_aloadn f_179_49 rfl) ?_
    refine Eq.trans (s_iloadn f_179_50 rfl) ?_
    exact s_call [zR 138, zI v2] [] f_179_51 rfl c_179_123 rfl rfl (Nat.le_of_ble_eq_true rfl) (by show (zkn SH 138 == zown 173) = true; rw [show zkn SH 138 = 10 from kn_138]; rfl)
theorem q_179_54 {d : Nat} (v1 v2 : Int) (M : ZM) : Q d 179 54 [zR 138, zI v1, zI v2, zU] [] M = Q d 179 25 [zR 138, zI v1, zI (zw (v2 + (-1))), zU] [] M := by
  refine Eq.trans (s_iinc f_179_54 rfl rfl) ?_
  refine Eq.trans (s_goto 25 f_179_57 (by decide)) ?_
  rfl
theorem q_179_62 {d : Nat} (v1 v2 : Int) (z3 : ZV) (M : ZM) : Q d 179 62 [zR 138, zI v1, zI v2, z3] [] M = if (M 139 121) ≤ v2 then (Q d 179 138 [zR 138, zI v1, zI (zw (5 * v1)), z3] [] (zwr M 139 120 (zw ((M 139 120) - 1)))) else (Q d 179 75 [zR 138, zI v1, zI v2, zI 0] [] M) := by
  refine Eq.trans (s_iloadn f_179_62 rfl) ?_
  refine Eq.trans (s_aloadn f_179_63 rfl) ?_
  refine Eq.trans (s_getR f_179_64 g_179_7 (by decide) kn_138 rf_138_0) ?_
  refine Eq.trans (s_bipush f_179_67) ?_
  refine Eq.trans (s_iald f_179_69 kn_139 ln_139) (Eq.trans (if_pos (by decide)) ?_)
  refine Eq.trans (s_icmp (P := (M 139 121) ≤ v2) 123 f_179_70 (by decide) rfl) (ite_cg (fun h1 => ?_) (fun h1 => ?_))
  · refine Eq.trans (s_aloadn f_179_123 rfl) ?_
    refine Eq.trans (s_getR f_179_124 g_179_7 (by decide) kn_138 rf_138_0) ?_
    refine Eq.trans (s_bipush f_179_127) ?_
    refine Eq.trans (s_dup2 f_179_129 ⟨rfl, rfl⟩) ?_
    refine Eq.trans (s_iald f_179_130 kn_139 ln_139) (Eq.trans (if_pos (by decide)) ?_)
    refine Eq.trans (s_iconst f_179_131) ?_
    refine Eq.trans (s_isub f_179_132) ?_
    refine Eq.trans (s_iast f_179_133 kn_139 ln_139) (Eq.trans (if_pos (by decide)) ?_)
    refine Eq.trans (s_iconst f_179_134) ?_
    refine Eq.trans (s_iloadn f_179_135 rfl) ?_
    refine Eq.trans (s_imul f_179_136) ?_
    refine Eq.trans (s_istoren f_179_137 rfl) ?_
    rfl
  · refine Eq.trans (s_iconst f_179_73) ?_
    refine Eq.trans (s_istoren f_179_74 rfl) ?_
    rfl
theorem q_179_75 {d : Nat} (v1 v2 v3 : Int) (M : ZM) : Q d 179 75 [zR 138, zI v1, zI v2, zI v3] [] M = if 2 ≤ v3 then (Q d 179 62 [zR 138, zI v1, zI (zw (v2 + 1)), zI v3] [] M) else (if 0 ≤ (zw ((zw (60 + (zw (3 * v2)))) + v3)) ∧ (zw ((zw (60 + (zw (3 * v2)))) + v3)) < 124 then Cb (E d 157 [zR 138, zI v2, zI v3] M) (fun v h => zrun (zevl d) 179 100 [zR 138, zI v1, zI v2, zI v3] (v.toList ++ [zI (M 139 (zw ((zw (60 + (zw (3 * v2)))) + v3))), zI (zw ((zw (60 + (zw (3 * v2)))) + v3)), zR 139]) h) else none) := by
  refine Eq.trans (s_iloadn f_179_75 rfl) ?_
  refine Eq.trans (s_iconst f_179_76) ?_
  refine Eq.trans (s_icmp (P := 2 ≤ v3) 117 f_179_77 (by decide) rfl) (ite_cg (fun h1 => ?_) (fun h1 => ?_))
  · refine Eq.trans (s_iinc f_179_117 rfl rfl) ?_
    refine Eq.trans (s_goto 62 f_179_120 (by decide)) ?_
    rfl
  · refine Eq.trans (s_aloadn f_179_80 rfl) ?_
    refine Eq.trans (s_getR f_179_81 g_179_7 (by decide) kn_138 rf_138_0) ?_
    refine Eq.trans (s_bipush f_179_84) ?_
    refine Eq.trans (s_iconst f_179_86) ?_
    refine Eq.trans (s_iloadn f_179_87 rfl) ?_
    refine Eq.trans (s_imul f_179_88) ?_
    refine Eq.trans (s_iadd f_179_89) ?_
    refine Eq.trans (s_iloadn f_179_90 rfl) ?_
    refine Eq.trans (s_iadd f_179_91) ?_
    refine Eq.trans (s_dup2 f_179_92 ⟨rfl, rfl⟩) ?_
    refine Eq.trans (s_iald f_179_93 kn_139 ln_139) (gd_cg fun h2 => ?_)
    refine Eq.trans (s_aloadn f_179_94 rfl) ?_
    refine Eq.trans (s_iloadn f_179_95 rfl) ?_
    refine Eq.trans (s_iloadn f_179_96 rfl) ?_
    exact s_call [zR 138, zI v2, zI v3] [zI (M 139 (zw ((zw (60 + (zw (3 * v2)))) + v3))), zI (zw ((zw (60 + (zw (3 * v2)))) + v3)), zR 139] f_179_97 rfl c_179_85 rfl rfl (Nat.le_of_ble_eq_true rfl) (by show (zkn SH 138 == zown 157) = true; rw [show zkn SH 138 = 10 from kn_138]; rfl)
theorem q_179_100 {d : Nat} (v1 v2 v3 s1 s2 s3 : Int) (M : ZM) : Q d 179 100 [zR 138, zI v1, zI v2, zI v3] [zI s3, zI s2, zI s1, zR 139] M = if s3 ≤ v1 then (if 0 ≤ s1 ∧ s1 < 124 then Q d 179 75 [zR 138, zI v1, zI v2, zI (zw (v3 + 1))] [] (zwr M 139 s1 (zw (s2 - 0))) else none) else (if 0 ≤ s1 ∧ s1 < 124 then Q d 179 75 [zR 138, zI v1, zI v2, zI (zw (v3 + 1))] [] (zwr M 139 s1 (zw (s2 - 1))) else none) := by
  refine Eq.trans (s_iloadn f_179_100 rfl) ?_
  refine Eq.trans (s_icmp (P := s3 ≤ v1) 108 f_179_101 (by decide) rfl) (ite_cg (fun h1 => ?_) (fun h1 => ?_))
  · refine Eq.trans (s_iconst f_179_108) ?_
    refine Eq.trans (s_isub f_179_109) ?_
    refine Eq.trans (s_iast f_179_110 kn_139 ln_139) (gd_cg fun h2 => ?_)
    refine Eq.trans (s_iinc f_179_111 rfl rfl) ?_
    refine Eq.trans (s_goto 75 f_179_114 (by decide)) ?_
    rfl
  · refine Eq.trans (s_iconst f_179_104) ?_
    refine Eq.trans (s_goto 109 f_179_105 (by decide)) ?_
    refine Eq.trans (s_isub f_179_109) ?_
    refine Eq.trans (s_iast f_179_110 kn_139 ln_139) (gd_cg fun h3 => ?_)
    refine Eq.trans (s_iinc f_179_111 rfl rfl) ?_
    refine Eq.trans (s_goto 75 f_179_114 (by decide)) ?_
    rfl
theorem q_179_138 {d : Nat} (v1 v2 : Int) (z3 : ZV) (M : ZM) : Q d 179 138 [zR 138, zI v1, zI v2, z3] [] M = if (zw (5 * (M 139 120))) ≤ v2 then (if (M 139 122) ≠ v1 then (if (M 139 122) ≤ v1 then (Q d 179 226 [zR 138, zI v1, zI v2, z3] [zI (M 139 122), zI 122, zR 139] M) else (Q d 179 226 [zR 138, zI v1, zI v2, z3] [zI (zw ((M 139 122) - 1)), zI 122, zR 139] M)) else (Q d 179 226 [zR 138, zI v1, zI v2, z3] [zI 0, zI 122, zR 139] M)) else (if 0 ≤ (zw ((zw (0 + v2)) + 5)) ∧ (zw ((zw (0 + v2)) + 5)) < 124 then if 0 ≤ (zw (0 + v2)) ∧ (zw (0 + v2)) < 124 then Q d 179 138 [zR 138, zI v1, zI (zw (v2 + 1)), z3] [] (zwr M 139 (zw (0 + v2)) (M 139 (zw ((zw (0 + v2)) + 5)))) else none else none) := by
  refine Eq.trans (s_iloadn f_179_138 rfl) ?_
  refine Eq.trans (s_iconst f_179_139) ?_
  refine Eq.trans (s_aloadn f_179_140 rfl) ?_
  refine Eq.trans (s_getR f_179_141 g_179_7 (by decide) kn_138 rf_138_0) ?_
  refine Eq.trans (s_bipush f_179_144) ?_
  refine Eq.trans (s_iald f_179_146 kn_139 ln_139) (Eq.trans (if_pos (by decide)) ?_)
  refine Eq.trans (s_imul f_179_147) ?_
  refine Eq.trans (s_icmp (P := (zw (5 * (M 139 120))) ≤ v2) 175 f_179_148 (by decide) rfl) (ite_cg (fun h1 => ?_) (fun h1 => ?_))
  · refine Eq.trans (s_aloadn f_179_175 rfl) ?_
    refine Eq.trans (s_getR f_179_176 g_179_7 (by decide) kn_138 rf_138_0) ?_
    refine Eq.trans (s_bipush f_179_179) ?_
    refine Eq.trans (s_aloadn f_179_181 rfl) ?_
    refine Eq.trans (s_getR f_179_182 g_179_7 (by decide) kn_138 rf_138_0) ?_
    refine Eq.trans (s_bipush f_179_185) ?_
    refine Eq.trans (s_iald f_179_187 kn_139 ln_139) (Eq.trans (if_pos (by decide)) ?_)
    refine Eq.trans (s_iloadn f_179_188 rfl) ?_
    refine Eq.trans (s_icmp (P := (M 139 122) ≠ v1) 196 f_179_189 (by decide) rfl) (ite_cg (fun h2 => ?_) (fun h2 => ?_))
    · refine Eq.trans (s_aloadn f_179_196 rfl) ?_
      refine Eq.trans (s_getR f_179_197 g_179_7 (by decide) kn_138 rf_138_0) ?_
      refine Eq.trans (s_bipush f_179_200) ?_
      refine Eq.trans (s_iald f_179_202 kn_139 ln_139) (Eq.trans (if_pos (by decide)) ?_)
      refine Eq.trans (s_iloadn f_179_203 rfl) ?_
      refine Eq.trans (s_icmp (P := (M 139 122) ≤ v1) 219 f_179_204 (by decide) rfl) (ite_cg (fun h3 => ?_) (fun h3 => ?_))
      · refine Eq.trans (s_aloadn f_179_219 rfl) ?_
        refine Eq.trans (s_getR f_179_220 g_179_7 (by decide) kn_138 rf_138_0) ?_
        refine Eq.trans (s_bipush f_179_223) ?_
        refine Eq.trans (s_iald f_179_225 kn_139 ln_139) (Eq.trans (if_pos (by decide)) ?_)
        rfl
      · refine Eq.trans (s_aloadn f_179_207 rfl) ?_
        refine Eq.trans (s_getR f_179_208 g_179_7 (by decide) kn_138 rf_138_0) ?_
        refine Eq.trans (s_bipush f_179_211) ?_
        refine Eq.trans (s_iald f_179_213 kn_139 ln_139) (Eq.trans (if_pos (by decide)) ?_)
        refine Eq.trans (s_iconst f_179_214) ?_
        refine Eq.trans (s_isub f_179_215) ?_
        refine Eq.trans (s_goto 226 f_179_216 (by decide)) ?_
        rfl
    · refine Eq.trans (s_iconst f_179_192) ?_
      refine Eq.trans (s_goto 226 f_179_193 (by decide)) ?_
      rfl
  · refine Eq.trans (s_aloadn f_179_151 rfl) ?_
    refine Eq.trans (s_getR f_179_152 g_179_7 (by decide) kn_138 rf_138_0) ?_
    refine Eq.trans (s_iconst f_179_155) ?_
    refine Eq.trans (s_iloadn f_179_156 rfl) ?_
    refine Eq.trans (s_iadd f_179_157) ?_
    refine Eq.trans (s_aloadn f_179_158 rfl) ?_
    refine Eq.trans (s_getR f_179_159 g_179_7 (by decide) kn_138 rf_138_0) ?_
    refine Eq.trans (s_iconst f_179_162) ?_
    refine Eq.trans (s_iloadn f_179_163 rfl) ?_
    refine Eq.trans (s_iadd f_179_164) ?_
    refine Eq.trans (s_iconst f_179_165) ?_
    refine Eq.trans (s_iadd f_179_166) ?_
    refine Eq.trans (s_iald f_179_167 kn_139 ln_139) (gd_cg fun h4 => ?_)
    refine Eq.trans (s_iast f_179_168 kn_139 ln_139) (gd_cg fun h5 => ?_)
    refine Eq.trans (s_iinc f_179_169 rfl rfl) ?_
    refine Eq.trans (s_goto 138 f_179_172 (by decide)) ?_
    rfl
theorem q_179_226 {d : Nat} (v1 v2 s1 s2 : Int) (z3 : ZV) (M : ZM) : Q d 179 226 [zR 138, zI v1, zI v2, z3] [zI s2, zI s1, zR 139] M = if 0 ≤ s1 ∧ s1 < 124 then Cb (E d 163 [zR 138] (zwr M 139 s1 s2)) (fun v h => zrun (zevl d) 179 231 [zR 138, zI v1, zI v2, z3] (v.toList ++ []) h) else none := by
  refine Eq.trans (s_iast f_179_226 kn_139 ln_139) (gd_cg fun h1 => ?_)
  refine Eq.trans (s_aloadn f_179_227 rfl) ?_
  exact s_call [zR 138] [] f_179_228 rfl c_179_79 rfl rfl (Nat.le_of_ble_eq_true rfl) (by show (zkn SH 138 == zown 163) = true; rw [show zkn SH 138 = 10 from kn_138]; rfl)
theorem q_179_231 {d : Nat} (v1 v2 : Int) (z3 : ZV) (M : ZM) : Q d 179 231 [zR 138, zI v1, zI v2, z3] [] M = Rt (some (zI (M 139 120))) M := by
  refine Eq.trans (s_aloadn f_179_231 rfl) ?_
  refine Eq.trans (s_getR f_179_232 g_179_7 (by decide) kn_138 rf_138_0) ?_
  refine Eq.trans (s_bipush f_179_235) ?_
  refine Eq.trans (s_iald f_179_237 kn_139 ln_139) (Eq.trans (if_pos (by decide)) ?_)
  exact s_iret f_179_238 t_179
theorem en_179 {d : Nat} (v1 : Int) (M : ZM) : E (d + 1) 179 [zR 138, zI v1] M = Q d 179 0 [zR 138, zI v1, zU, zU] [] M := e_in (Nat.le_of_ble_eq_true rfl)
-- DungeonBuilderModel.removeCorridor(I)I
theorem q_180_0 {d : Nat} (v1 : Int) (M : ZM) : Q d 180 0 [zR 138, zI v1] [] M = Cb (E d 155 [zR 138, zI v1] M) (fun v h => zrun (zevl d) 180 5 [zR 138, zI v1] (v.toList ++ []) h) := by
  refine Eq.trans (s_aloadn f_180_0 rfl) ?_
  refine Eq.trans (s_iloadn f_180_1 rfl) ?_
  exact s_call [zR 138, zI v1] [] f_180_2 rfl c_180_95 rfl rfl (Nat.le_of_ble_eq_true rfl) (by show (zkn SH 138 == zown 155) = true; rw [show zkn SH 138 = 10 from kn_138]; rfl)
theorem q_180_5 {d : Nat} (v1 s0 : Int) (M : ZM) : Q d 180 5 [zR 138, zI v1] [zI s0] M = if s0 ≠ 0 then (Cb (E d 162 [zR 138] M) (fun v h => zrun (zevl d) 180 15 [zR 138, zI v1] (v.toList ++ []) h)) else (Rt (some (zI (-101))) M) := by
  refine Eq.trans (s_if (P := s0 ≠ 0) 11 f_180_5 (by decide) rfl) (ite_cg (fun h1 => ?_) (fun h1 => ?_))
  · refine Eq.trans (s_aloadn f_180_11 rfl) ?_
    exact s_call [zR 138] [] f_180_12 rfl c_180_101 rfl rfl (Nat.le_of_ble_eq_true rfl) (by show (zkn SH 138 == zown 162) = true; rw [show zkn SH 138 = 10 from kn_138]; rfl)
  · refine Eq.trans (s_bipush f_180_8) ?_
    exact s_iret f_180_10 t_180
theorem q_180_15 {d : Nat} (v1 : Int) (M : ZM) : Q d 180 15 [zR 138, zI v1] [] M = Cb (E d 173 [zR 138, zI v1] M) (fun v h => zrun (zevl d) 180 20 [zR 138, zI v1] (v.toList ++ []) h) := by
  refine Eq.trans (s_aloadn f_180_15 rfl) ?_
  refine Eq.trans (s_iloadn f_180_16 rfl) ?_
  exact s_call [zR 138, zI v1] [] f_180_17 rfl c_180_123 rfl rfl (Nat.le_of_ble_eq_true rfl) (by show (zkn SH 138 == zown 173) = true; rw [show zkn SH 138 = 10 from kn_138]; rfl)
theorem q_180_20 {d : Nat} (v1 : Int) (M : ZM) : Q d 180 20 [zR 138, zI v1] [] M = Cb (E d 163 [zR 138] M) (fun v h => zrun (zevl d) 180 24 [zR 138, zI v1] (v.toList ++ []) h) := by
  refine Eq.trans (s_aloadn f_180_20 rfl) ?_
  exact s_call [zR 138] [] f_180_21 rfl c_180_79 rfl rfl (Nat.le_of_ble_eq_true rfl) (by show (zkn SH 138 == zown 163) = true; rw [show zkn SH 138 = 10 from kn_138]; rfl)
theorem q_180_24 {d : Nat} (v1 : Int) (M : ZM) : Q d 180 24 [zR 138, zI v1] [] M = Rt (some (zI (M 139 121))) M := by
  refine Eq.trans (s_aloadn f_180_24 rfl) ?_
  refine Eq.trans (s_getR f_180_25 g_180_7 (by decide) kn_138 rf_138_0) ?_
  refine Eq.trans (s_bipush f_180_28) ?_
  refine Eq.trans (s_iald f_180_30 kn_139 ln_139) (Eq.trans (if_pos (by decide)) ?_)
  exact s_iret f_180_31 t_180
theorem en_180 {d : Nat} (v1 : Int) (M : ZM) : E (d + 1) 180 [zR 138, zI v1] M = Q d 180 0 [zR 138, zI v1] [] M := e_in (Nat.le_of_ble_eq_true rfl)
-- DungeonBuilderModel.drawn(I)I
theorem q_181_0 {d : Nat} (v1 : Int) (M : ZM) : Q d 181 0 [zR 138, zI v1] [] M = if v1 ≠ 0 then Rt (some (zI (((zand (zushr ((zwr M 138 6 (zw ((zw ((M 138 6) * 1103515245)) + 12345))) 138 6) 16) 32767)).tmod v1))) (zwr M 138 6 (zw ((zw ((M 138 6) * 1103515245)) + 12345))) else none := by
  refine Eq.trans (s_aloadn f_181_0 rfl) ?_
  refine Eq.trans (s_aloadn f_181_1 rfl) ?_
  refine Eq.trans (s_getI f_181_2 g_181_127 (by decide) kn_138) ?_
  refine Eq.trans (s_ldc f_181_5 k_181_130) ?_
  refine Eq.trans (s_imul f_181_7) ?_
  refine Eq.trans (s_sipush f_181_8) ?_
  refine Eq.trans (s_iadd f_181_11) ?_
  refine Eq.trans (s_putI f_181_12 g_181_127 (by decide) kn_138) ?_
  refine Eq.trans (s_aloadn f_181_15 rfl) ?_
  refine Eq.trans (s_getI f_181_16 g_181_127 (by decide) kn_138) ?_
  refine Eq.trans (s_bipush f_181_19) ?_
  refine Eq.trans (s_iushr f_181_21) ?_
  refine Eq.trans (s_sipush f_181_22) ?_
  refine Eq.trans (s_iand f_181_25) ?_
  refine Eq.trans (s_iloadn f_181_26 rfl) ?_
  refine Eq.trans (s_irem f_181_27) (gd_cg fun h1 => ?_)
  exact s_iret f_181_28 t_181
theorem en_181 {d : Nat} (v1 : Int) (M : ZM) : E (d + 1) 181 [zR 138, zI v1] M = Q d 181 0 [zR 138, zI v1] [] M := e_in (Nat.le_of_ble_eq_true rfl)
-- DungeonBuilderModel.parts(LDungeonBuilderModel;IIIII)V
theorem q_182_0 {d : Nat} (v1 v2 v3 v4 v5 : Int) (M : ZM) : Q d 182 0 [zR 138, zI v1, zI v2, zI v3, zI v4, zI v5, zU, zU, zU, zU, zU] [] M = if v5 = 0 then (Q d 182 18 [zR 138, zI v1, zI v2, zI v3, zI v4, zI v5, zU, zU, zU, zU, zU] [] M) else (if 10 ≤ v3 then (Q d 182 76 [zR 138, zI v1, zI v2, zI v3, zI v4, zI v5, zU, zU, zU, zU, zU] [] M) else (if 10 ≤ v4 then (Q d 182 76 [zR 138, zI v1, zI v2, zI v3, zI v4, zI v5, zU, zU, zU, zU, zU] [] M) else (Q d 182 18 [zR 138, zI v1, zI v2, zI v3, zI v4, zI v5, zU, zU, zU, zU, zU] [] M))) := by
  refine Eq.trans (s_iload f_182_0 rfl) ?_
  refine Eq.trans (s_if (P := v5 = 0) 18 f_182_2 (by decide) rfl) (ite_cg (fun h1 => ?_) (fun h1 => ?_))
  · rfl
  · refine Eq.trans (s_iloadn f_182_5 rfl) ?_
    refine Eq.trans (s_bipush f_182_6) ?_
    refine Eq.trans (s_icmp (P := 10 ≤ v3) 76 f_182_8 (by decide) rfl) (ite_cg (fun h2 => ?_) (fun h2 => ?_))
    · rfl
    · refine Eq.trans (s_iload f_182_11 rfl) ?_
      refine Eq.trans (s_bipush f_182_13) ?_
      refine Eq.trans (s_icmp (P := 10 ≤ v4) 76 f_182_15 (by decide) rfl) (ite_cg (fun h3 => ?_) (fun h3 => ?_))
      · rfl
      · rfl
theorem q_182_18 {d : Nat} (v1 v2 v3 v4 v5 : Int) (M : ZM) : Q d 182 18 [zR 138, zI v1, zI v2, zI v3, zI v4, zI v5, zU, zU, zU, zU, zU] [] M = if 0 ≤ (zw (4 * (M 138 8))) ∧ (zw (4 * (M 138 8))) < 80 then if 0 ≤ (zw ((zw (4 * (M 138 8))) + 1)) ∧ (zw ((zw (4 * (M 138 8))) + 1)) < 80 then if 0 ≤ (zw ((zw (4 * (M 138 8))) + 2)) ∧ (zw ((zw (4 * (M 138 8))) + 2)) < 80 then if 0 ≤ (zw ((zw (4 * (M 138 8))) + 3)) ∧ (zw ((zw (4 * (M 138 8))) + 3)) < 80 then Rt none (zwr (zwr (zwr (zwr (zwr M 143 (zw (4 * (M 138 8))) v1) 143 (zw ((zw (4 * (M 138 8))) + 1)) v2) 143 (zw ((zw (4 * (M 138 8))) + 2)) v3) 143 (zw ((zw (4 * (M 138 8))) + 3)) v4) 138 8 (zw (((zwr (zwr (zwr (zwr M 143 (zw (4 * (M 138 8))) v1) 143 (zw ((zw (4 * (M 138 8))) + 1)) v2) 143 (zw ((zw (4 * (M 138 8))) + 2)) v3) 143 (zw ((zw (4 * (M 138 8))) + 3)) v4) 138 8) + 1))) else none else none else none else none := by
  refine Eq.trans (s_iconst f_182_18) ?_
  refine Eq.trans (s_aloadn f_182_19 rfl) ?_
  refine Eq.trans (s_getI f_182_20 g_182_131 (by decide) kn_138) ?_
  refine Eq.trans (s_imul f_182_23) ?_
  refine Eq.trans (s_istore f_182_24 rfl) ?_
  refine Eq.trans (s_aloadn f_182_26 rfl) ?_
  refine Eq.trans (s_getR f_182_27 g_182_22 (by decide) kn_138 rf_138_7) ?_
  refine Eq.trans (s_iload f_182_30 rfl) ?_
  refine Eq.trans (s_iloadn f_182_32 rfl) ?_
  refine Eq.trans (s_iast f_182_33 kn_143 ln_143) (gd_cg fun h1 => ?_)
  refine Eq.trans (s_aloadn f_182_34 rfl) ?_
  refine Eq.trans (s_getR f_182_35 g_182_22 (by decide) kn_138 rf_138_7) ?_
  refine Eq.trans (s_iload f_182_38 rfl) ?_
  refine Eq.trans (s_iconst f_182_40) ?_
  refine Eq.trans (s_iadd f_182_41) ?_
  refine Eq.trans (s_iloadn f_182_42 rfl) ?_
  refine Eq.trans (s_iast f_182_43 kn_143 ln_143) (gd_cg fun h2 => ?_)
  refine Eq.trans (s_aloadn f_182_44 rfl) ?_
  refine Eq.trans (s_getR f_182_45 g_182_22 (by decide) kn_138 rf_138_7) ?_
  refine Eq.trans (s_iload f_182_48 rfl) ?_
  refine Eq.trans (s_iconst f_182_50) ?_
  refine Eq.trans (s_iadd f_182_51) ?_
  refine Eq.trans (s_iloadn f_182_52 rfl) ?_
  refine Eq.trans (s_iast f_182_53 kn_143 ln_143) (gd_cg fun h3 => ?_)
  refine Eq.trans (s_aloadn f_182_54 rfl) ?_
  refine Eq.trans (s_getR f_182_55 g_182_22 (by decide) kn_138 rf_138_7) ?_
  refine Eq.trans (s_iload f_182_58 rfl) ?_
  refine Eq.trans (s_iconst f_182_60) ?_
  refine Eq.trans (s_iadd f_182_61) ?_
  refine Eq.trans (s_iload f_182_62 rfl) ?_
  refine Eq.trans (s_iast f_182_64 kn_143 ln_143) (gd_cg fun h4 => ?_)
  refine Eq.trans (s_aloadn f_182_65 rfl) ?_
  refine Eq.trans (s_dup f_182_66 rfl) ?_
  refine Eq.trans (s_getI f_182_67 g_182_131 (by decide) kn_138) ?_
  refine Eq.trans (s_iconst f_182_70) ?_
  refine Eq.trans (s_iadd f_182_71) ?_
  refine Eq.trans (s_putI f_182_72 g_182_131 (by decide) kn_138) ?_
  exact s_vret f_182_75 t_182
theorem q_182_76 {d : Nat} (v1 v2 v3 v4 v5 : Int) (M : ZM) : Q d 182 76 [zR 138, zI v1, zI v2, zI v3, zI v4, zI v5, zU, zU, zU, zU, zU] [] M = if v3 < 10 then (Q d 182 105 [zR 138, zI v1, zI v2, zI v3, zI v4, zI v5, zU, zU, zU, zU, zU] [] M) else (if v4 < 10 then (Q d 182 105 [zR 138, zI v1, zI v2, zI v3, zI v4, zI v5, zU, zU, zU, zU, zU] [] M) else (Cb (E d 181 [zR 138, zI 2] M) (fun v h => zrun (zevl d) 182 94 [zR 138, zI v1, zI v2, zI v3, zI v4, zI v5, zU, zU, zU, zU, zU] (v.toList ++ []) h))) := by
  refine Eq.trans (s_iloadn f_182_76 rfl) ?_
  refine Eq.trans (s_bipush f_182_77) ?_
  refine Eq.trans (s_icmp (P := v3 < 10) 105 f_182_79 (by decide) rfl) (ite_cg (fun h1 => ?_) (fun h1 => ?_))
  · rfl
  · refine Eq.trans (s_iload f_182_82 rfl) ?_
    refine Eq.trans (s_bipush f_182_84) ?_
    refine Eq.trans (s_icmp (P := v4 < 10) 105 f_182_86 (by decide) rfl) (ite_cg (fun h2 => ?_) (fun h2 => ?_))
    · rfl
    · refine Eq.trans (s_aloadn f_182_89 rfl) ?_
      refine Eq.trans (s_iconst f_182_90) ?_
      exact s_call [zR 138, zI 2] [] f_182_91 rfl c_182_134 rfl rfl (Nat.le_of_ble_eq_true rfl) (by show (zkn SH 138 == zown 181) = true; rw [show zkn SH 138 = 10 from kn_138]; rfl)
theorem q_182_94 {d : Nat} (v1 v2 v3 v4 v5 s0 : Int) (M : ZM) : Q d 182 94 [zR 138, zI v1, zI v2, zI v3, zI v4, zI v5, zU, zU, zU, zU, zU] [zI s0] M = if s0 ≠ 0 then (Cb (E d 181 [zR 138, zI (zw (v4 - 9))] M) (fun v h => zrun (zevl d) 182 137 [zR 138, zI v1, zI v2, zI v3, zI v4, zI v5, zI 0, zU, zU, zU, zU] (v.toList ++ [zI 5]) h)) else (Cb (E d 181 [zR 138, zI (zw (v3 - 9))] M) (fun v h => zrun (zevl d) 182 137 [zR 138, zI v1, zI v2, zI v3, zI v4, zI v5, zI 1, zU, zU, zU, zU] (v.toList ++ [zI 5]) h)) := by
  refine Eq.trans (s_if (P := s0 ≠ 0) 101 f_182_94 (by decide) rfl) (ite_cg (fun h1 => ?_) (fun h1 => ?_))
  · refine Eq.trans (s_iconst f_182_101) ?_
    refine Eq.trans (s_goto 116 f_182_102 (by decide)) ?_
    refine Eq.trans (s_istore f_182_116 rfl) ?_
    refine Eq.trans (s_iconst f_182_118) ?_
    refine Eq.trans (s_aloadn f_182_119 rfl) ?_
    refine Eq.trans (s_iload f_182_120 rfl) ?_
    refine Eq.trans (s_if (P := 0 = 0) 129 f_182_122 (by decide) rfl) (Eq.trans (if_pos (by decide)) ?_)
    refine Eq.trans (s_iload f_182_129 rfl) ?_
    refine Eq.trans (s_bipush f_182_131) ?_
    refine Eq.trans (s_isub f_182_133) ?_
    exact s_call [zR 138, zI (zw (v4 - 9))] [zI 5] f_182_134 rfl c_182_134 rfl rfl (Nat.le_of_ble_eq_true rfl) (by show (zkn SH 138 == zown 181) = true; rw [show zkn SH 138 = 10 from kn_138]; rfl)
  · refine Eq.trans (s_iconst f_182_97) ?_
    refine Eq.trans (s_goto 116 f_182_98 (by decide)) ?_
    refine Eq.trans (s_istore f_182_116 rfl) ?_
    refine Eq.trans (s_iconst f_182_118) ?_
    refine Eq.trans (s_aloadn f_182_119 rfl) ?_
    refine Eq.trans (s_iload f_182_120 rfl) ?_
    refine Eq.trans (s_if (P := 1 = 0) 129 f_182_122 (by decide) rfl) (Eq.trans (if_neg (by decide)) ?_)
    refine Eq.trans (s_iloadn f_182_125 rfl) ?_
    refine Eq.trans (s_goto 131 f_182_126 (by decide)) ?_
    refine Eq.trans (s_bipush f_182_131) ?_
    refine Eq.trans (s_isub f_182_133) ?_
    exact s_call [zR 138, zI (zw (v3 - 9))] [zI 5] f_182_134 rfl c_182_134 rfl rfl (Nat.le_of_ble_eq_true rfl) (by show (zkn SH 138 == zown 181) = true; rw [show zkn SH 138 = 10 from kn_138]; rfl)
theorem q_182_105 {d : Nat} (v1 v2 v3 v4 v5 : Int) (M : ZM) : Q d 182 105 [zR 138, zI v1, zI v2, zI v3, zI v4, zI v5, zU, zU, zU, zU, zU] [] M = if v3 < 10 then (Cb (E d 181 [zR 138, zI (zw (v4 - 9))] M) (fun v h => zrun (zevl d) 182 137 [zR 138, zI v1, zI v2, zI v3, zI v4, zI v5, zI 0, zU, zU, zU, zU] (v.toList ++ [zI 5]) h)) else (Cb (E d 181 [zR 138, zI (zw (v3 - 9))] M) (fun v h => zrun (zevl d) 182 137 [zR 138, zI v1, zI v2, zI v3, zI v4, zI v5, zI 1, zU, zU, zU, zU] (v.toList ++ [zI 5]) h)) := by
  refine Eq.trans (s_iloadn f_182_105 rfl) ?_
  refine Eq.trans (s_bipush f_182_106) ?_
  refine Eq.trans (s_icmp (P := v3 < 10) 115 f_182_108 (by decide) rfl) (ite_cg (fun h1 => ?_) (fun h1 => ?_))
  · refine Eq.trans (s_iconst f_182_115) ?_
    refine Eq.trans (s_istore f_182_116 rfl) ?_
    refine Eq.trans (s_iconst f_182_118) ?_
    refine Eq.trans (s_aloadn f_182_119 rfl) ?_
    refine Eq.trans (s_iload f_182_120 rfl) ?_
    refine Eq.trans (s_if (P := 0 = 0) 129 f_182_122 (by decide) rfl) (Eq.trans (if_pos (by decide)) ?_)
    refine Eq.trans (s_iload f_182_129 rfl) ?_
    refine Eq.trans (s_bipush f_182_131) ?_
    refine Eq.trans (s_isub f_182_133) ?_
    exact s_call [zR 138, zI (zw (v4 - 9))] [zI 5] f_182_134 rfl c_182_134 rfl rfl (Nat.le_of_ble_eq_true rfl) (by show (zkn SH 138 == zown 181) = true; rw [show zkn SH 138 = 10 from kn_138]; rfl)
  · refine Eq.trans (s_iconst f_182_111) ?_
    refine Eq.trans (s_goto 116 f_182_112 (by decide)) ?_
    refine Eq.trans (s_istore f_182_116 rfl) ?_
    refine Eq.trans (s_iconst f_182_118) ?_
    refine Eq.trans (s_aloadn f_182_119 rfl) ?_
    refine Eq.trans (s_iload f_182_120 rfl) ?_
    refine Eq.trans (s_if (P := 1 = 0) 129 f_182_122 (by decide) rfl) (Eq.trans (if_neg (by decide)) ?_)
    refine Eq.trans (s_iloadn f_182_125 rfl) ?_
    refine Eq.trans (s_goto 131 f_182_126 (by decide)) ?_
    refine Eq.trans (s_bipush f_182_131) ?_
    refine Eq.trans (s_isub f_182_133) ?_
    exact s_call [zR 138, zI (zw (v3 - 9))] [zI 5] f_182_134 rfl c_182_134 rfl rfl (Nat.le_of_ble_eq_true rfl) (by show (zkn SH 138 == zown 181) = true; rw [show zkn SH 138 = 10 from kn_138]; rfl)
theorem q_182_137 {d : Nat} (v1 v2 v3 v4 v5 v6 s0 s1 : Int) (M : ZM) : Q d 182 137 [zR 138, zI v1, zI v2, zI v3, zI v4, zI v5, zI v6, zU, zU, zU, zU] [zI s1, zI s0] M = if v6 = 0 then (if v6 = 0 then (Cb (E d 182 [zR 138, zI v1, zI v2, zI v3, zI (zw (s0 + s1)), zI (zw (v5 - 1))] M) (fun v h => zrun (zevl d) 182 179 [zR 138, zI v1, zI v2, zI v3, zI v4, zI v5, zI v6, zI (zw (s0 + s1)), zI (M 138 8), zU, zU] (v.toList ++ []) h)) else (Cb (E d 182 [zR 138, zI v1, zI v2, zI v3, zI v4, zI (zw (v5 - 1))] M) (fun v h => zrun (zevl d) 182 179 [zR 138, zI v1, zI v2, zI v3, zI v4, zI v5, zI v6, zI (zw (s0 + s1)), zI (M 138 8), zU, zU] (v.toList ++ []) h))) else (if v6 = 0 then (Cb (E d 182 [zR 138, zI v1, zI v2, zI (zw (s0 + s1)), zI (zw (s0 + s1)), zI (zw (v5 - 1))] M) (fun v h => zrun (zevl d) 182 179 [zR 138, zI v1, zI v2, zI v3, zI v4, zI v5, zI v6, zI (zw (s0 + s1)), zI (M 138 8), zU, zU] (v.toList ++ []) h)) else (Cb (E d 182 [zR 138, zI v1, zI v2, zI (zw (s0 + s1)), zI v4, zI (zw (v5 - 1))] M) (fun v h => zrun (zevl d) 182 179 [zR 138, zI v1, zI v2, zI v3, zI v4, zI v5, zI v6, zI (zw (s0 + s1)), zI (M 138 8), zU, zU] (v.toList ++ []) h))) := by
  refine Eq.trans (s_iadd f_182_137) ?_
  refine Eq.trans (s_istore f_182_138 rfl) ?_
  refine Eq.trans (s_aloadn f_182_140 rfl) ?_
  refine Eq.trans (s_getI f_182_141 g_182_131 (by decide) kn_138) ?_
  refine Eq.trans (s_istore f_182_144 rfl) ?_
  refine Eq.trans (s_aloadn f_182_146 rfl) ?_
  refine Eq.trans (s_iloadn f_182_147 rfl) ?_
  refine Eq.trans (s_iloadn f_182_148 rfl) ?_
  refine Eq.trans (s_iload f_182_149 rfl) ?_
  refine Eq.trans (s_if (P := v6 = 0) 159 f_182_151 (by decide) rfl) (ite_cg (fun h1 => ?_) (fun h1 => ?_))
  · refine Eq.trans (s_iloadn f_182_159 rfl) ?_
    refine Eq.trans (s_iload f_182_160 rfl) ?_
    refine Eq.trans (s_if (P := v6 = 0) 170 f_182_162 (by decide) rfl) (ite_cg (fun h2 => ?_) (fun h2 => ?_))
    · refine Eq.trans (s_iload f_182_170 rfl) ?_
      refine Eq.trans (s_iload f_182_172 rfl) ?_
      refine Eq.trans (s_iconst f_182_174) ?_
      refine Eq.trans (s_isub f_182_175) ?_
      exact s_call [zR 138, zI v1, zI v2, zI v3, zI (zw (s0 + s1)), zI (zw (v5 - 1))] [] f_182_176 rfl c_182_137 rfl rfl (Nat.le_of_ble_eq_true rfl) rfl
    · refine Eq.trans (s_iload f_182_165 rfl) ?_
      refine Eq.trans (s_goto 172 f_182_167 (by decide)) ?_
      refine Eq.trans (s_iload f_182_172 rfl) ?_
      refine Eq.trans (s_iconst f_182_174) ?_
      refine Eq.trans (s_isub f_182_175) ?_
      exact s_call [zR 138, zI v1, zI v2, zI v3, zI v4, zI (zw (v5 - 1))] [] f_182_176 rfl c_182_137 rfl rfl (Nat.le_of_ble_eq_true rfl) rfl
  · refine Eq.trans (s_iload f_182_154 rfl) ?_
    refine Eq.trans (s_goto 160 f_182_156 (by decide)) ?_
    refine Eq.trans (s_iload f_182_160 rfl) ?_
    refine Eq.trans (s_if (P := v6 = 0) 170 f_182_162 (by decide) rfl) (ite_cg (fun h3 => ?_) (fun h3 => ?_))
    · refine Eq.trans (s_iload f_182_170 rfl) ?_
      refine Eq.trans (s_iload f_182_172 rfl) ?_
      refine Eq.trans (s_iconst f_182_174) ?_
      refine Eq.trans (s_isub f_182_175) ?_
      exact s_call [zR 138, zI v1, zI v2, zI (zw (s0 + s1)), zI (zw (s0 + s1)), zI (zw (v5 - 1))] [] f_182_176 rfl c_182_137 rfl rfl (Nat.le_of_ble_eq_true rfl) rfl
    · refine Eq.trans (s_iload f_182_165 rfl) ?_
      refine Eq.trans (s_goto 172 f_182_167 (by decide)) ?_
      refine Eq.trans (s_iload f_182_172 rfl) ?_
      refine Eq.trans (s_iconst f_182_174) ?_
      refine Eq.trans (s_isub f_182_175) ?_
      exact s_call [zR 138, zI v1, zI v2, zI (zw (s0 + s1)), zI v4, zI (zw (v5 - 1))] [] f_182_176 rfl c_182_137 rfl rfl (Nat.le_of_ble_eq_true rfl) rfl
theorem q_182_179 {d : Nat} (v1 v2 v3 v4 v5 v6 v7 v8 : Int) (M : ZM) : Q d 182 179 [zR 138, zI v1, zI v2, zI v3, zI v4, zI v5, zI v6, zI v7, zI v8, zU, zU] [] M = if v6 = 0 then (Q d 182 199 [zR 138, zI v1, zI v2, zI v3, zI v4, zI v5, zI v6, zI v7, zI v8, zI (M 138 8), zU] [zI v1, zR 138] M) else (Q d 182 199 [zR 138, zI v1, zI v2, zI v3, zI v4, zI v5, zI v6, zI v7, zI v8, zI (M 138 8), zU] [zI (zw (v1 + v7)), zR 138] M) := by
  refine Eq.trans (s_aloadn f_182_179 rfl) ?_
  refine Eq.trans (s_getI f_182_180 g_182_131 (by decide) kn_138) ?_
  refine Eq.trans (s_istore f_182_183 rfl) ?_
  refine Eq.trans (s_aloadn f_182_185 rfl) ?_
  refine Eq.trans (s_iload f_182_186 rfl) ?_
  refine Eq.trans (s_if (P := v6 = 0) 198 f_182_188 (by decide) rfl) (ite_cg (fun h1 => ?_) (fun h1 => ?_))
  · refine Eq.trans (s_iloadn f_182_198 rfl) ?_
    rfl
  · refine Eq.trans (s_iloadn f_182_191 rfl) ?_
    refine Eq.trans (s_iload f_182_192 rfl) ?_
    refine Eq.trans (s_iadd f_182_194) ?_
    refine Eq.trans (s_goto 199 f_182_195 (by decide)) ?_
    rfl
theorem q_182_199 {d : Nat} (v1 v2 v3 v4 v5 v6 v7 v8 v9 s1 : Int) (M : ZM) : Q d 182 199 [zR 138, zI v1, zI v2, zI v3, zI v4, zI v5, zI v6, zI v7, zI v8, zI v9, zU] [zI s1, zR 138] M = if v6 = 0 then (Q d 182 212 [zR 138, zI v1, zI v2, zI v3, zI v4, zI v5, zI v6, zI v7, zI v8, zI v9, zU] [zI (zw (v2 + v7)), zI s1, zR 138] M) else (Q d 182 212 [zR 138, zI v1, zI v2, zI v3, zI v4, zI v5, zI v6, zI v7, zI v8, zI v9, zU] [zI v2, zI s1, zR 138] M) := by
  refine Eq.trans (s_iload f_182_199 rfl) ?_
  refine Eq.trans (s_if (P := v6 = 0) 208 f_182_201 (by decide) rfl) (ite_cg (fun h1 => ?_) (fun h1 => ?_))
  · refine Eq.trans (s_iloadn f_182_208 rfl) ?_
    refine Eq.trans (s_iload f_182_209 rfl) ?_
    refine Eq.trans (s_iadd f_182_211) ?_
    rfl
  · refine Eq.trans (s_iloadn f_182_204 rfl) ?_
    refine Eq.trans (s_goto 212 f_182_205 (by decide)) ?_
    rfl
theorem q_182_212 {d : Nat} (v1 v2 v3 v4 v5 v6 v7 v8 v9 s1 s2 : Int) (M : ZM) : Q d 182 212 [zR 138, zI v1, zI v2, zI v3, zI v4, zI v5, zI v6, zI v7, zI v8, zI v9, zU] [zI s2, zI s1, zR 138] M = if v6 = 0 then (if v6 = 0 then (Cb (E d 182 [zR 138, zI s1, zI s2, zI v3, zI (zw (v4 - v7)), zI (zw (v5 - 1))] M) (fun v h => zrun (zevl d) 182 247 [zR 138, zI v1, zI v2, zI v3, zI v4, zI v5, zI v6, zI v7, zI v8, zI v9, zU] (v.toList ++ []) h)) else (Cb (E d 182 [zR 138, zI s1, zI s2, zI v3, zI v4, zI (zw (v5 - 1))] M) (fun v h => zrun (zevl d) 182 247 [zR 138, zI v1, zI v2, zI v3, zI v4, zI v5, zI v6, zI v7, zI v8, zI v9, zU] (v.toList ++ []) h))) else (if v6 = 0 then (Cb (E d 182 [zR 138, zI s1, zI s2, zI (zw (v3 - v7)), zI (zw (v4 - v7)), zI (zw (v5 - 1))] M) (fun v h => zrun (zevl d) 182 247 [zR 138, zI v1, zI v2, zI v3, zI v4, zI v5, zI v6, zI v7, zI v8, zI v9, zU] (v.toList ++ []) h)) else (Cb (E d 182 [zR 138, zI s1, zI s2, zI (zw (v3 - v7)), zI v4, zI (zw (v5 - 1))] M) (fun v h => zrun (zevl d) 182 247 [zR 138, zI v1, zI v2, zI v3, zI v4, zI v5, zI v6, zI v7, zI v8, zI v9, zU] (v.toList ++ []) h))) := by
  refine Eq.trans (s_iload f_182_212 rfl) ?_
  refine Eq.trans (s_if (P := v6 = 0) 224 f_182_214 (by decide) rfl) (ite_cg (fun h1 => ?_) (fun h1 => ?_))
  · refine Eq.trans (s_iloadn f_182_224 rfl) ?_
    refine Eq.trans (s_iload f_182_225 rfl) ?_
    refine Eq.trans (s_if (P := v6 = 0) 235 f_182_227 (by decide) rfl) (ite_cg (fun h2 => ?_) (fun h2 => ?_))
    · refine Eq.trans (s_iload f_182_235 rfl) ?_
      refine Eq.trans (s_iload f_182_237 rfl) ?_
      refine Eq.trans (s_isub f_182_239) ?_
      refine Eq.trans (s_iload f_182_240 rfl) ?_
      refine Eq.trans (s_iconst f_182_242) ?_
      refine Eq.trans (s_isub f_182_243) ?_
      exact s_call [zR 138, zI s1, zI s2, zI v3, zI (zw (v4 - v7)), zI (zw (v5 - 1))] [] f_182_244 rfl c_182_137 rfl rfl (Nat.le_of_ble_eq_true rfl) rfl
    · refine Eq.trans (s_iload f_182_230 rfl) ?_
      refine Eq.trans (s_goto 240 f_182_232 (by decide)) ?_
      refine Eq.trans (s_iload f_182_240 rfl) ?_
      refine Eq.trans (s_iconst f_182_242) ?_
      refine Eq.trans (s_isub f_182_243) ?_
      exact s_call [zR 138, zI s1, zI s2, zI v3, zI v4, zI (zw (v5 - 1))] [] f_182_244 rfl c_182_137 rfl rfl (Nat.le_of_ble_eq_true rfl) rfl
  · refine Eq.trans (s_iloadn f_182_217 rfl) ?_
    refine Eq.trans (s_iload f_182_218 rfl) ?_
    refine Eq.trans (s_isub f_182_220) ?_
    refine Eq.trans (s_goto 225 f_182_221 (by decide)) ?_
    refine Eq.trans (s_iload f_182_225 rfl) ?_
    refine Eq.trans (s_if (P := v6 = 0) 235 f_182_227 (by decide) rfl) (ite_cg (fun h3 => ?_) (fun h3 => ?_))
    · refine Eq.trans (s_iload f_182_235 rfl) ?_
      refine Eq.trans (s_iload f_182_237 rfl) ?_
      refine Eq.trans (s_isub f_182_239) ?_
      refine Eq.trans (s_iload f_182_240 rfl) ?_
      refine Eq.trans (s_iconst f_182_242) ?_
      refine Eq.trans (s_isub f_182_243) ?_
      exact s_call [zR 138, zI s1, zI s2, zI (zw (v3 - v7)), zI (zw (v4 - v7)), zI (zw (v5 - 1))] [] f_182_244 rfl c_182_137 rfl rfl (Nat.le_of_ble_eq_true rfl) rfl
    · refine Eq.trans (s_iload f_182_230 rfl) ?_
      refine Eq.trans (s_goto 240 f_182_232 (by decide)) ?_
      refine Eq.trans (s_iload f_182_240 rfl) ?_
      refine Eq.trans (s_iconst f_182_242) ?_
      refine Eq.trans (s_isub f_182_243) ?_
      exact s_call [zR 138, zI s1, zI s2, zI (zw (v3 - v7)), zI v4, zI (zw (v5 - 1))] [] f_182_244 rfl c_182_137 rfl rfl (Nat.le_of_ble_eq_true rfl) rfl
theorem q_182_247 {d : Nat} (v1 v2 v3 v4 v5 v6 v7 v8 v9 : Int) (M : ZM) : Q d 182 247 [zR 138, zI v1, zI v2, zI v3, zI v4, zI v5, zI v6, zI v7, zI v8, zI v9, zU] [] M = if 0 ≤ (zw (3 * (M 138 10))) ∧ (zw (3 * (M 138 10))) < 60 then if 0 ≤ (zw ((zw (3 * (M 138 10))) + 1)) ∧ (zw ((zw (3 * (M 138 10))) + 1)) < 60 then if 0 ≤ (zw ((zw (3 * (M 138 10))) + 2)) ∧ (zw ((zw (3 * (M 138 10))) + 2)) < 60 then Rt none (zwr (zwr (zwr (zwr M 144 (zw (3 * (M 138 10))) v8) 144 (zw ((zw (3 * (M 138 10))) + 1)) v9) 144 (zw ((zw (3 * (M 138 10))) + 2)) ((zwr (zwr M 144 (zw (3 * (M 138 10))) v8) 144 (zw ((zw (3 * (M 138 10))) + 1)) v9) 138 8)) 138 10 (zw (((zwr (zwr (zwr M 144 (zw (3 * (M 138 10))) v8) 144 (zw ((zw (3 * (M 138 10))) + 1)) v9) 144 (zw ((zw (3 * (M 138 10))) + 2)) ((zwr (zwr M 144 (zw (3 * (M 138 10))) v8) 144 (zw ((zw (3 * (M 138 10))) + 1)) v9) 138 8)) 138 10) + 1))) else none else none else none := by
  refine Eq.trans (s_iconst f_182_247) ?_
  refine Eq.trans (s_aloadn f_182_248 rfl) ?_
  refine Eq.trans (s_getI f_182_249 g_182_141 (by decide) kn_138) ?_
  refine Eq.trans (s_imul f_182_252) ?_
  refine Eq.trans (s_istore f_182_253 rfl) ?_
  refine Eq.trans (s_aloadn f_182_255 rfl) ?_
  refine Eq.trans (s_getR f_182_256 g_182_25 (by decide) kn_138 rf_138_9) ?_
  refine Eq.trans (s_iload f_182_259 rfl) ?_
  refine Eq.trans (s_iload f_182_261 rfl) ?_
  refine Eq.trans (s_iast f_182_263 kn_144 ln_144) (gd_cg fun h1 => ?_)
  refine Eq.trans (s_aloadn f_182_264 rfl) ?_
  refine Eq.trans (s_getR f_182_265 g_182_25 (by decide) kn_138 rf_138_9) ?_
  refine Eq.trans (s_iload f_182_268 rfl) ?_
  refine Eq.trans (s_iconst f_182_270) ?_
  refine Eq.trans (s_iadd f_182_271) ?_
  refine Eq.trans (s_iload f_182_272 rfl) ?_
  refine Eq.trans (s_iast f_182_274 kn_144 ln_144) (gd_cg fun h2 => ?_)
  refine Eq.trans (s_aloadn f_182_275 rfl) ?_
  refine Eq.trans (s_getR f_182_276 g_182_25 (by decide) kn_138 rf_138_9) ?_
  refine Eq.trans (s_iload f_182_279 rfl) ?_
  refine Eq.trans (s_iconst f_182_281) ?_
  refine Eq.trans (s_iadd f_182_282) ?_
  refine Eq.trans (s_aloadn f_182_283 rfl) ?_
  refine Eq.trans (s_getI f_182_284 g_182_131 (by decide) kn_138) ?_
  refine Eq.trans (s_iast f_182_287 kn_144 ln_144) (gd_cg fun h3 => ?_)
  refine Eq.trans (s_aloadn f_182_288 rfl) ?_
  refine Eq.trans (s_dup f_182_289 rfl) ?_
  refine Eq.trans (s_getI f_182_290 g_182_141 (by decide) kn_138) ?_
  refine Eq.trans (s_iconst f_182_293) ?_
  refine Eq.trans (s_iadd f_182_294) ?_
  refine Eq.trans (s_putI f_182_295 g_182_141 (by decide) kn_138) ?_
  exact s_vret f_182_298 t_182
theorem en_182 {d : Nat} (v1 v2 v3 v4 v5 : Int) (M : ZM) : E (d + 1) 182 [zR 138, zI v1, zI v2, zI v3, zI v4, zI v5] M = Q d 182 0 [zR 138, zI v1, zI v2, zI v3, zI v4, zI v5, zU, zU, zU, zU, zU] [] M := e_in (Nat.le_of_ble_eq_true rfl)
-- DungeonBuilderModel.least(II)I
theorem q_183_0 {d : Nat} (v0 v1 : Int) (M : ZM) : Q d 183 0 [zI v0, zI v1] [] M = if v1 ≤ v0 then (Rt (some (zI v1)) M) else (Rt (some (zI v0)) M) := by
  refine Eq.trans (s_iloadn f_183_0 rfl) ?_
  refine Eq.trans (s_iloadn f_183_1 rfl) ?_
  refine Eq.trans (s_icmp (P := v1 ≤ v0) 9 f_183_2 (by decide) rfl) (ite_cg (fun h1 => ?_) (fun h1 => ?_))
  · refine Eq.trans (s_iloadn f_183_9 rfl) ?_
    exact s_iret f_183_10 t_183
  · refine Eq.trans (s_iloadn f_183_5 rfl) ?_
    refine Eq.trans (s_goto 10 f_183_6 (by decide)) ?_
    exact s_iret f_183_10 t_183
theorem en_183 {d : Nat} (v0 v1 : Int) (M : ZM) : E (d + 1) 183 [zI v0, zI v1] M = Q d 183 0 [zI v0, zI v1] [] M := e_in (Nat.le_of_ble_eq_true rfl)
-- DungeonBuilderModel.joins(III)V
theorem q_184_0 {d : Nat} (v1 v2 v3 : Int) (M : ZM) : Q d 184 0 [zR 138, zI v1, zI v2, zI v3, zU, zU, zU, zU] [] M = Q d 184 9 [zR 138, zI v1, zI v2, zI v3, zI v1, zI v2, zI v1, zU] [] M := by
  refine Eq.trans (s_iloadn f_184_0 rfl) ?_
  refine Eq.trans (s_istore f_184_1 rfl) ?_
  refine Eq.trans (s_iloadn f_184_3 rfl) ?_
  refine Eq.trans (s_istore f_184_4 rfl) ?_
  refine Eq.trans (s_iloadn f_184_6 rfl) ?_
  refine Eq.trans (s_istore f_184_7 rfl) ?_
  rfl
theorem q_184_9 {d : Nat} (v1 v2 v3 v4 v5 v6 : Int) (z7 : ZV) (M : ZM) : Q d 184 9 [zR 138, zI v1, zI v2, zI v3, zI v4, zI v5, zI v6, z7] [] M = if v2 ≤ v6 then (Cb (E d 168 [zR 138, zI v4, zI v5] M) (fun v h => zrun (zevl d) 184 71 [zR 138, zI v1, zI v2, zI v3, zI v4, zI v5, zI v6, z7] (v.toList ++ []) h)) else (Q d 184 18 [zR 138, zI v1, zI v2, zI v3, zI v4, zI v5, zI v6, zI v2] [] M) := by
  refine Eq.trans (s_iload f_184_9 rfl) ?_
  refine Eq.trans (s_iloadn f_184_11 rfl) ?_
  refine Eq.trans (s_icmp (P := v2 ≤ v6) 63 f_184_12 (by decide) rfl) (ite_cg (fun h1 => ?_) (fun h1 => ?_))
  · refine Eq.trans (s_aloadn f_184_63 rfl) ?_
    refine Eq.trans (s_iload f_184_64 rfl) ?_
    refine Eq.trans (s_iload f_184_66 rfl) ?_
    exact s_call [zR 138, zI v4, zI v5] [] f_184_68 rfl c_184_111 rfl rfl (Nat.le_of_ble_eq_true rfl) (by show (zkn SH 138 == zown 168) = true; rw [show zkn SH 138 = 10 from kn_138]; rfl)
  · refine Eq.trans (s_iloadn f_184_15 rfl) ?_
    refine Eq.trans (s_istore f_184_16 rfl) ?_
    rfl
theorem q_184_18 {d : Nat} (v1 v2 v3 v4 v5 v6 v7 : Int) (M : ZM) : Q d 184 18 [zR 138, zI v1, zI v2, zI v3, zI v4, zI v5, zI v6, zI v7] [] M = if v3 ≤ v7 then (Q d 184 9 [zR 138, zI v1, zI v2, zI v3, zI v4, zI v5, zI (zw (v6 + 1)), zI v7] [] M) else (Cb (E d 161 [zR 138, zI v6, zI v7] M) (fun v h => zrun (zevl d) 184 32 [zR 138, zI v1, zI v2, zI v3, zI v4, zI v5, zI v6, zI v7] (v.toList ++ []) h)) := by
  refine Eq.trans (s_iload f_184_18 rfl) ?_
  refine Eq.trans (s_iloadn f_184_20 rfl) ?_
  refine Eq.trans (s_icmp (P := v3 ≤ v7) 57 f_184_21 (by decide) rfl) (ite_cg (fun h1 => ?_) (fun h1 => ?_))
  · refine Eq.trans (s_iinc f_184_57 rfl rfl) ?_
    refine Eq.trans (s_goto 9 f_184_60 (by decide)) ?_
    rfl
  · refine Eq.trans (s_aloadn f_184_24 rfl) ?_
    refine Eq.trans (s_iload f_184_25 rfl) ?_
    refine Eq.trans (s_iload f_184_27 rfl) ?_
    exact s_call [zR 138, zI v6, zI v7] [] f_184_29 rfl c_184_144 rfl rfl (Nat.le_of_ble_eq_true rfl) (by show (zkn SH 138 == zown 161) = true; rw [show zkn SH 138 = 10 from kn_138]; rfl)
theorem q_184_32 {d : Nat} (v1 v2 v3 v4 v5 v6 v7 s0 : Int) (M : ZM) : Q d 184 32 [zR 138, zI v1, zI v2, zI v3, zI v4, zI v5, zI v6, zI v7] [zI s0] M = Cb (E d 161 [zR 138, zI v4, zI v5] M) (fun v h => zrun (zevl d) 184 40 [zR 138, zI v1, zI v2, zI v3, zI v4, zI v5, zI v6, zI v7] (v.toList ++ [zI s0]) h) := by
  refine Eq.trans (s_aloadn f_184_32 rfl) ?_
  refine Eq.trans (s_iload f_184_33 rfl) ?_
  refine Eq.trans (s_iload f_184_35 rfl) ?_
  exact s_call [zR 138, zI v4, zI v5] [zI s0] f_184_37 rfl c_184_144 rfl rfl (Nat.le_of_ble_eq_true rfl) (by show (zkn SH 138 == zown 161) = true; rw [show zkn SH 138 = 10 from kn_138]; rfl)
theorem q_184_40 {d : Nat} (v1 v2 v3 v4 v5 v6 v7 s0 s1 : Int) (M : ZM) : Q d 184 40 [zR 138, zI v1, zI v2, zI v3, zI v4, zI v5, zI v6, zI v7] [zI s1, zI s0] M = if s1 ≤ s0 then (Q d 184 18 [zR 138, zI v1, zI v2, zI v3, zI v4, zI v5, zI v6, zI (zw (v7 + 1))] [] M) else (Q d 184 18 [zR 138, zI v1, zI v2, zI v3, zI v6, zI v7, zI v6, zI (zw (v7 + 1))] [] M) := by
  refine Eq.trans (s_icmp (P := s1 ≤ s0) 51 f_184_40 (by decide) rfl) (ite_cg (fun h1 => ?_) (fun h1 => ?_))
  · refine Eq.trans (s_iinc f_184_51 rfl rfl) ?_
    refine Eq.trans (s_goto 18 f_184_54 (by decide)) ?_
    rfl
  · refine Eq.trans (s_iload f_184_43 rfl) ?_
    refine Eq.trans (s_istore f_184_45 rfl) ?_
    refine Eq.trans (s_iload f_184_47 rfl) ?_
    refine Eq.trans (s_istore f_184_49 rfl) ?_
    refine Eq.trans (s_iinc f_184_51 rfl rfl) ?_
    refine Eq.trans (s_goto 18 f_184_54 (by decide)) ?_
    rfl
theorem q_184_71 {d : Nat} (v1 v2 v3 v4 v5 v6 s0 : Int) (z7 : ZV) (M : ZM) : Q d 184 71 [zR 138, zI v1, zI v2, zI v3, zI v4, zI v5, zI v6, z7] [zI s0] M = Rt none M := by
  refine Eq.trans (s_istore f_184_71 rfl) ?_
  exact s_vret f_184_73 t_184
theorem en_184 {d : Nat} (v1 v2 v3 : Int) (M : ZM) : E (d + 1) 184 [zR 138, zI v1, zI v2, zI v3] M = Q d 184 0 [zR 138, zI v1, zI v2, zI v3, zU, zU, zU, zU] [] M := e_in (Nat.le_of_ble_eq_true rfl)
-- DungeonBuilderModel.build(II)I
theorem q_185_0 {d : Nat} (v1 v2 : Int) (M : ZM) : Q d 185 0 [zR 138, zI v1, zI v2, zU, zU, zU, zU, zU, zU, zU] [] M = Cb (E d 153 [zI v2, zI 0, zI 5] M) (fun v h => zrun (zevl d) 185 6 [zR 138, zI v1, zI v2, zU, zU, zU, zU, zU, zU, zU] (v.toList ++ []) h) := by
  refine Eq.trans (s_iloadn f_185_0 rfl) ?_
  refine Eq.trans (s_iconst f_185_1) ?_
  refine Eq.trans (s_iconst f_185_2) ?_
  exact s_call [zI v2, zI 0, zI 5] [] f_185_3 rfl c_185_58 rfl rfl (Nat.le_of_ble_eq_true rfl) rfl
theorem q_185_6 {d : Nat} (v1 v2 s0 : Int) (M : ZM) : Q d 185 6 [zR 138, zI v1, zI v2, zU, zU, zU, zU, zU, zU, zU] [zI s0] M = if s0 ≠ 0 then (Cb (E d 162 [zR 138] M) (fun v h => zrun (zevl d) 185 16 [zR 138, zI v1, zI v2, zU, zU, zU, zU, zU, zU, zU] (v.toList ++ []) h)) else (Rt (some (zI (-102))) M) := by
  refine Eq.trans (s_if (P := s0 ≠ 0) 12 f_185_6 (by decide) rfl) (ite_cg (fun h1 => ?_) (fun h1 => ?_))
  · refine Eq.trans (s_aloadn f_185_12 rfl) ?_
    exact s_call [zR 138] [] f_185_13 rfl c_185_101 rfl rfl (Nat.le_of_ble_eq_true rfl) (by show (zkn SH 138 == zown 162) = true; rw [show zkn SH 138 = 10 from kn_138]; rfl)
  · refine Eq.trans (s_bipush f_185_9) ?_
    exact s_iret f_185_11 t_185
theorem q_185_16 {d : Nat} (v1 v2 : Int) (M : ZM) : Q d 185 16 [zR 138, zI v1, zI v2, zU, zU, zU, zU, zU, zU, zU] [] M = Q d 185 27 [zR 138, zI v1, zI v2, zI (M 139 123), zI 0, zU, zU, zU, zU, zU] [] M := by
  refine Eq.trans (s_aloadn f_185_16 rfl) ?_
  refine Eq.trans (s_getR f_185_17 g_185_7 (by decide) kn_138 rf_138_0) ?_
  refine Eq.trans (s_bipush f_185_20) ?_
  refine Eq.trans (s_iald f_185_22 kn_139 ln_139) (Eq.trans (if_pos (by decide)) ?_)
  refine Eq.trans (s_istoren f_185_23 rfl) ?_
  refine Eq.trans (s_iconst f_185_24) ?_
  refine Eq.trans (s_istore f_185_25 rfl) ?_
  rfl
theorem q_185_27 {d : Nat} (v1 v2 v3 v4 : Int) (M : ZM) : Q d 185 27 [zR 138, zI v1, zI v2, zI v3, zI v4, zU, zU, zU, zU, zU] [] M = if 124 ≤ v4 then (Cb (E d 182 [zR 138, zI 0, zI 0, zI 24, zI 16, zI v2] (zwr (zwr (zwr (zwr M 139 123 v3) 138 6 v1) 138 8 0) 138 10 0)) (fun v h => zrun (zevl d) 185 82 [zR 138, zI v1, zI v2, zI v3, zI v4, zU, zU, zU, zU, zU] (v.toList ++ []) h)) else (if 0 ≤ v4 ∧ v4 < 124 then Q d 185 27 [zR 138, zI v1, zI v2, zI v3, zI (zw (v4 + 1)), zU, zU, zU, zU, zU] [] (zwr M 139 v4 0) else none) := by
  refine Eq.trans (s_iload f_185_27 rfl) ?_
  refine Eq.trans (s_bipush f_185_29) ?_
  refine Eq.trans (s_icmp (P := 124 ≤ v4) 48 f_185_31 (by decide) rfl) (ite_cg (fun h1 => ?_) (fun h1 => ?_))
  · refine Eq.trans (s_aloadn f_185_48 rfl) ?_
    refine Eq.trans (s_getR f_185_49 g_185_7 (by decide) kn_138 rf_138_0) ?_
    refine Eq.trans (s_bipush f_185_52) ?_
    refine Eq.trans (s_iloadn f_185_54 rfl) ?_
    refine Eq.trans (s_iast f_185_55 kn_139 ln_139) (Eq.trans (if_pos (by decide)) ?_)
    refine Eq.trans (s_aloadn f_185_56 rfl) ?_
    refine Eq.trans (s_iloadn f_185_57 rfl) ?_
    refine Eq.trans (s_putI f_185_58 g_185_127 (by decide) kn_138) ?_
    refine Eq.trans (s_aloadn f_185_61 rfl) ?_
    refine Eq.trans (s_iconst f_185_62) ?_
    refine Eq.trans (s_putI f_185_63 g_185_131 (by decide) kn_138) ?_
    refine Eq.trans (s_aloadn f_185_66 rfl) ?_
    refine Eq.trans (s_iconst f_185_67) ?_
    refine Eq.trans (s_putI f_185_68 g_185_141 (by decide) kn_138) ?_
    refine Eq.trans (s_aloadn f_185_71 rfl) ?_
    refine Eq.trans (s_iconst f_185_72) ?_
    refine Eq.trans (s_iconst f_185_73) ?_
    refine Eq.trans (s_bipush f_185_74) ?_
    refine Eq.trans (s_bipush f_185_76) ?_
    refine Eq.trans (s_iloadn f_185_78 rfl) ?_
    exact s_call [zR 138, zI 0, zI 0, zI 24, zI 16, zI v2] [] f_185_79 rfl c_185_137 rfl rfl (Nat.le_of_ble_eq_true rfl) rfl
  · refine Eq.trans (s_aloadn f_185_34 rfl) ?_
    refine Eq.trans (s_getR f_185_35 g_185_7 (by decide) kn_138 rf_138_0) ?_
    refine Eq.trans (s_iload f_185_38 rfl) ?_
    refine Eq.trans (s_iconst f_185_40) ?_
    refine Eq.trans (s_iast f_185_41 kn_139 ln_139) (gd_cg fun h2 => ?_)
    refine Eq.trans (s_iinc f_185_42 rfl rfl) ?_
    refine Eq.trans (s_goto 27 f_185_45 (by decide)) ?_
    rfl
theorem q_185_82 {d : Nat} (v1 v2 v3 v4 : Int) (M : ZM) : Q d 185 82 [zR 138, zI v1, zI v2, zI v3, zI v4, zU, zU, zU, zU, zU] [] M = Q d 185 85 [zR 138, zI v1, zI v2, zI v3, zI 0, zU, zU, zU, zU, zU] [] M := by
  refine Eq.trans (s_iconst f_185_82) ?_
  refine Eq.trans (s_istore f_185_83 rfl) ?_
  rfl
theorem q_185_85 {d : Nat} (v1 v2 v3 v4 : Int) (z5 z6 z7 z8 z9 : ZV) (M : ZM) : Q d 185 85 [zR 138, zI v1, zI v2, zI v3, zI v4, z5, z6, z7, z8, z9] [] M = if (M 138 8) ≤ v4 then (Q d 185 239 [zR 138, zI v1, zI v2, zI v3, zI 0, z5, z6, z7, z8, z9] [] M) else (if 0 ≤ (zw ((zw (4 * v4)) + 2)) ∧ (zw ((zw (4 * v4)) + 2)) < 80 then Cb (E d 181 [zR 138, zI (zw ((M 143 (zw ((zw (4 * v4)) + 2))) - 4))] M) (fun v h => zrun (zevl d) 185 114 [zR 138, zI v1, zI v2, zI v3, zI v4, z5, z6, z7, z8, z9] (v.toList ++ [zI 3, zI 12]) h) else none) := by
  refine Eq.trans (s_iload f_185_85 rfl) ?_
  refine Eq.trans (s_aloadn f_185_87 rfl) ?_
  refine Eq.trans (s_getI f_185_88 g_185_131 (by decide) kn_138) ?_
  refine Eq.trans (s_icmp (P := (M 138 8) ≤ v4) 236 f_185_91 (by decide) rfl) (ite_cg (fun h1 => ?_) (fun h1 => ?_))
  · refine Eq.trans (s_iconst f_185_236) ?_
    refine Eq.trans (s_istore f_185_237 rfl) ?_
    rfl
  · refine Eq.trans (s_bipush f_185_94) ?_
    refine Eq.trans (s_iconst f_185_96) ?_
    refine Eq.trans (s_aloadn f_185_97 rfl) ?_
    refine Eq.trans (s_aloadn f_185_98 rfl) ?_
    refine Eq.trans (s_getR f_185_99 g_185_22 (by decide) kn_138 rf_138_7) ?_
    refine Eq.trans (s_iconst f_185_102) ?_
    refine Eq.trans (s_iload f_185_103 rfl) ?_
    refine Eq.trans (s_imul f_185_105) ?_
    refine Eq.trans (s_iconst f_185_106) ?_
    refine Eq.trans (s_iadd f_185_107) ?_
    refine Eq.trans (s_iald f_185_108 kn_143 ln_143) (gd_cg fun h2 => ?_)
    refine Eq.trans (s_iconst f_185_109) ?_
    refine Eq.trans (s_isub f_185_110) ?_
    exact s_call [zR 138, zI (zw ((M 143 (zw ((zw (4 * v4)) + 2))) - 4))] [zI 3, zI 12] f_185_111 rfl c_185_134 rfl rfl (Nat.le_of_ble_eq_true rfl) (by show (zkn SH 138 == zown 181) = true; rw [show zkn SH 138 = 10 from kn_138]; rfl)
theorem q_185_114 {d : Nat} (v1 v2 v3 v4 s0 s1 s2 : Int) (z5 z6 z7 z8 z9 : ZV) (M : ZM) : Q d 185 114 [zR 138, zI v1, zI v2, zI v3, zI v4, z5, z6, z7, z8, z9] [zI s2, zI s1, zI s0] M = Cb (E d 183 [zI s0, zI (zw (s1 + s2))] M) (fun v h => zrun (zevl d) 185 118 [zR 138, zI v1, zI v2, zI v3, zI v4, z5, z6, z7, z8, z9] (v.toList ++ []) h) := by
  refine Eq.trans (s_iadd f_185_114) ?_
  exact s_call [zI s0, zI (zw (s1 + s2))] [] f_185_115 rfl c_185_147 rfl rfl (Nat.le_of_ble_eq_true rfl) rfl
theorem q_185_118 {d : Nat} (v1 v2 v3 v4 s0 : Int) (z5 z6 z7 z8 z9 : ZV) (M : ZM) : Q d 185 118 [zR 138, zI v1, zI v2, zI v3, zI v4, z5, z6, z7, z8, z9] [zI s0] M = if 0 ≤ (zw ((zw (4 * v4)) + 3)) ∧ (zw ((zw (4 * v4)) + 3)) < 80 then Cb (E d 181 [zR 138, zI (zw ((M 143 (zw ((zw (4 * v4)) + 3))) - 4))] M) (fun v h => zrun (zevl d) 185 140 [zR 138, zI v1, zI v2, zI v3, zI v4, zI s0, z6, z7, z8, z9] (v.toList ++ [zI 3, zI 12]) h) else none := by
  refine Eq.trans (s_istore f_185_118 rfl) ?_
  refine Eq.trans (s_bipush f_185_120) ?_
  refine Eq.trans (s_iconst f_185_122) ?_
  refine Eq.trans (s_aloadn f_185_123 rfl) ?_
  refine Eq.trans (s_aloadn f_185_124 rfl) ?_
  refine Eq.trans (s_getR f_185_125 g_185_22 (by decide) kn_138 rf_138_7) ?_
  refine Eq.trans (s_iconst f_185_128) ?_
  refine Eq.trans (s_iload f_185_129 rfl) ?_
  refine Eq.trans (s_imul f_185_131) ?_
  refine Eq.trans (s_iconst f_185_132) ?_
  refine Eq.trans (s_iadd f_185_133) ?_
  refine Eq.trans (s_iald f_185_134 kn_143 ln_143) (gd_cg fun h1 => ?_)
  refine Eq.trans (s_iconst f_185_135) ?_
  refine Eq.trans (s_isub f_185_136) ?_
  exact s_call [zR 138, zI (zw ((M 143 (zw ((zw (4 * v4)) + 3))) - 4))] [zI 3, zI 12] f_185_137 rfl c_185_134 rfl rfl (Nat.le_of_ble_eq_true rfl) (by show (zkn SH 138 == zown 181) = true; rw [show zkn SH 138 = 10 from kn_138]; rfl)
theorem q_185_140 {d : Nat} (v1 v2 v3 v4 v5 s0 s1 s2 : Int) (z6 z7 z8 z9 : ZV) (M : ZM) : Q d 185 140 [zR 138, zI v1, zI v2, zI v3, zI v4, zI v5, z6, z7, z8, z9] [zI s2, zI s1, zI s0] M = Cb (E d 183 [zI s0, zI (zw (s1 + s2))] M) (fun v h => zrun (zevl d) 185 144 [zR 138, zI v1, zI v2, zI v3, zI v4, zI v5, z6, z7, z8, z9] (v.toList ++ []) h) := by
  refine Eq.trans (s_iadd f_185_140) ?_
  exact s_call [zI s0, zI (zw (s1 + s2))] [] f_185_141 rfl c_185_147 rfl rfl (Nat.le_of_ble_eq_true rfl) rfl
theorem q_185_144 {d : Nat} (v1 v2 v3 v4 v5 s0 : Int) (z6 z7 z8 z9 : ZV) (M : ZM) : Q d 185 144 [zR 138, zI v1, zI v2, zI v3, zI v4, zI v5, z6, z7, z8, z9] [zI s0] M = if 0 ≤ (zw (4 * v4)) ∧ (zw (4 * v4)) < 80 then if 0 ≤ (zw ((zw (4 * v4)) + 2)) ∧ (zw ((zw (4 * v4)) + 2)) < 80 then Cb (E d 181 [zR 138, zI (zw ((zw ((M 143 (zw ((zw (4 * v4)) + 2))) - v5)) - 1))] M) (fun v h => zrun (zevl d) 185 177 [zR 138, zI v1, zI v2, zI v3, zI v4, zI v5, zI s0, z7, z8, z9] (v.toList ++ [zI (zw ((M 143 (zw (4 * v4))) + 1))]) h) else none else none := by
  refine Eq.trans (s_istore f_185_144 rfl) ?_
  refine Eq.trans (s_aloadn f_185_146 rfl) ?_
  refine Eq.trans (s_getR f_185_147 g_185_22 (by decide) kn_138 rf_138_7) ?_
  refine Eq.trans (s_iconst f_185_150) ?_
  refine Eq.trans (s_iload f_185_151 rfl) ?_
  refine Eq.trans (s_imul f_185_153) ?_
  refine Eq.trans (s_iald f_185_154 kn_143 ln_143) (gd_cg fun h1 => ?_)
  refine Eq.trans (s_iconst f_185_155) ?_
  refine Eq.trans (s_iadd f_185_156) ?_
  refine Eq.trans (s_aloadn f_185_157 rfl) ?_
  refine Eq.trans (s_aloadn f_185_158 rfl) ?_
  refine Eq.trans (s_getR f_185_159 g_185_22 (by decide) kn_138 rf_138_7) ?_
  refine Eq.trans (s_iconst f_185_162) ?_
  refine Eq.trans (s_iload f_185_163 rfl) ?_
  refine Eq.trans (s_imul f_185_165) ?_
  refine Eq.trans (s_iconst f_185_166) ?_
  refine Eq.trans (s_iadd f_185_167) ?_
  refine Eq.trans (s_iald f_185_168 kn_143 ln_143) (gd_cg fun h2 => ?_)
  refine Eq.trans (s_iload f_185_169 rfl) ?_
  refine Eq.trans (s_isub f_185_171) ?_
  refine Eq.trans (s_iconst f_185_172) ?_
  refine Eq.trans (s_isub f_185_173) ?_
  exact s_call [zR 138, zI (zw ((zw ((M 143 (zw ((zw (4 * v4)) + 2))) - v5)) - 1))] [zI (zw ((M 143 (zw (4 * v4))) + 1))] f_185_174 rfl c_185_134 rfl rfl (Nat.le_of_ble_eq_true rfl) (by show (zkn SH 138 == zown 181) = true; rw [show zkn SH 138 = 10 from kn_138]; rfl)
theorem q_185_177 {d : Nat} (v1 v2 v3 v4 v5 v6 s0 s1 : Int) (z7 z8 z9 : ZV) (M : ZM) : Q d 185 177 [zR 138, zI v1, zI v2, zI v3, zI v4, zI v5, zI v6, z7, z8, z9] [zI s1, zI s0] M = if 0 ≤ (zw ((zw (4 * v4)) + 1)) ∧ (zw ((zw (4 * v4)) + 1)) < 80 then if 0 ≤ (zw ((zw (4 * v4)) + 3)) ∧ (zw ((zw (4 * v4)) + 3)) < 80 then Cb (E d 181 [zR 138, zI (zw ((zw ((M 143 (zw ((zw (4 * v4)) + 3))) - v6)) - 1))] M) (fun v h => zrun (zevl d) 185 213 [zR 138, zI v1, zI v2, zI v3, zI v4, zI v5, zI v6, zI (zw (s0 + s1)), z8, z9] (v.toList ++ [zI (zw ((M 143 (zw ((zw (4 * v4)) + 1))) + 1))]) h) else none else none := by
  refine Eq.trans (s_iadd f_185_177) ?_
  refine Eq.trans (s_istore f_185_178 rfl) ?_
  refine Eq.trans (s_aloadn f_185_180 rfl) ?_
  refine Eq.trans (s_getR f_185_181 g_185_22 (by decide) kn_138 rf_138_7) ?_
  refine Eq.trans (s_iconst f_185_184) ?_
  refine Eq.trans (s_iload f_185_185 rfl) ?_
  refine Eq.trans (s_imul f_185_187) ?_
  refine Eq.trans (s_iconst f_185_188) ?_
  refine Eq.trans (s_iadd f_185_189) ?_
  refine Eq.trans (s_iald f_185_190 kn_143 ln_143) (gd_cg fun h1 => ?_)
  refine Eq.trans (s_iconst f_185_191) ?_
  refine Eq.trans (s_iadd f_185_192) ?_
  refine Eq.trans (s_aloadn f_185_193 rfl) ?_
  refine Eq.trans (s_aloadn f_185_194 rfl) ?_
  refine Eq.trans (s_getR f_185_195 g_185_22 (by decide) kn_138 rf_138_7) ?_
  refine Eq.trans (s_iconst f_185_198) ?_
  refine Eq.trans (s_iload f_185_199 rfl) ?_
  refine Eq.trans (s_imul f_185_201) ?_
  refine Eq.trans (s_iconst f_185_202) ?_
  refine Eq.trans (s_iadd f_185_203) ?_
  refine Eq.trans (s_iald f_185_204 kn_143 ln_143) (gd_cg fun h2 => ?_)
  refine Eq.trans (s_iload f_185_205 rfl) ?_
  refine Eq.trans (s_isub f_185_207) ?_
  refine Eq.trans (s_iconst f_185_208) ?_
  refine Eq.trans (s_isub f_185_209) ?_
  exact s_call [zR 138, zI (zw ((zw ((M 143 (zw ((zw (4 * v4)) + 3))) - v6)) - 1))] [zI (zw ((M 143 (zw ((zw (4 * v4)) + 1))) + 1))] f_185_210 rfl c_185_134 rfl rfl (Nat.le_of_ble_eq_true rfl) (by show (zkn SH 138 == zown 181) = true; rw [show zkn SH 138 = 10 from kn_138]; rfl)
theorem q_185_213 {d : Nat} (v1 v2 v3 v4 v5 v6 v7 s0 s1 : Int) (z8 z9 : ZV) (M : ZM) : Q d 185 213 [zR 138, zI v1, zI v2, zI v3, zI v4, zI v5, zI v6, zI v7, z8, z9] [zI s1, zI s0] M = Cb (E d 166 [zR 138, zI v7, zI (zw (s0 + s1)), zI v5, zI v6] M) (fun v h => zrun (zevl d) 185 228 [zR 138, zI v1, zI v2, zI v3, zI v4, zI v5, zI v6, zI v7, zI (zw (s0 + s1)), z9] (v.toList ++ []) h) := by
  refine Eq.trans (s_iadd f_185_213) ?_
  refine Eq.trans (s_istore f_185_214 rfl) ?_
  refine Eq.trans (s_aloadn f_185_216 rfl) ?_
  refine Eq.trans (s_iload f_185_217 rfl) ?_
  refine Eq.trans (s_iload f_185_219 rfl) ?_
  refine Eq.trans (s_iload f_185_221 rfl) ?_
  refine Eq.trans (s_iload f_185_223 rfl) ?_
  exact s_call [zR 138, zI v7, zI (zw (s0 + s1)), zI v5, zI v6] [] f_185_225 rfl c_185_104 rfl rfl (Nat.le_of_ble_eq_true rfl) (by show (zkn SH 138 == zown 166) = true; rw [show zkn SH 138 = 10 from kn_138]; rfl)
theorem q_185_228 {d : Nat} (v1 v2 v3 v4 v5 v6 v7 v8 s0 : Int) (z9 : ZV) (M : ZM) : Q d 185 228 [zR 138, zI v1, zI v2, zI v3, zI v4, zI v5, zI v6, zI v7, zI v8, z9] [zI s0] M = Q d 185 85 [zR 138, zI v1, zI v2, zI v3, zI (zw (v4 + 1)), zI v5, zI v6, zI v7, zI v8, zI s0] [] M := by
  refine Eq.trans (s_istore f_185_228 rfl) ?_
  refine Eq.trans (s_iinc f_185_230 rfl rfl) ?_
  refine Eq.trans (s_goto 85 f_185_233 (by decide)) ?_
  rfl
theorem q_185_239 {d : Nat} (v1 v2 v3 v4 : Int) (z5 z6 z7 z8 z9 : ZV) (M : ZM) : Q d 185 239 [zR 138, zI v1, zI v2, zI v3, zI v4, z5, z6, z7, z8, z9] [] M = if (M 138 10) ≤ v4 then (Cb (E d 163 [zR 138] M) (fun v h => zrun (zevl d) 185 293 [zR 138, zI v1, zI v2, zI v3, zI v4, z5, z6, z7, z8, z9] (v.toList ++ []) h)) else (if 0 ≤ (zw (3 * v4)) ∧ (zw (3 * v4)) < 60 then if 0 ≤ (zw ((zw (3 * v4)) + 1)) ∧ (zw ((zw (3 * v4)) + 1)) < 60 then if 0 ≤ (zw ((zw (3 * v4)) + 2)) ∧ (zw ((zw (3 * v4)) + 2)) < 60 then Cb (E d 184 [zR 138, zI (M 144 (zw (3 * v4))), zI (M 144 (zw ((zw (3 * v4)) + 1))), zI (M 144 (zw ((zw (3 * v4)) + 2)))] M) (fun v h => zrun (zevl d) 185 283 [zR 138, zI v1, zI v2, zI v3, zI v4, z5, z6, z7, z8, z9] (v.toList ++ []) h) else none else none else none) := by
  refine Eq.trans (s_iload f_185_239 rfl) ?_
  refine Eq.trans (s_aloadn f_185_241 rfl) ?_
  refine Eq.trans (s_getI f_185_242 g_185_141 (by decide) kn_138) ?_
  refine Eq.trans (s_icmp (P := (M 138 10) ≤ v4) 289 f_185_245 (by decide) rfl) (ite_cg (fun h1 => ?_) (fun h1 => ?_))
  · refine Eq.trans (s_aloadn f_185_289 rfl) ?_
    exact s_call [zR 138] [] f_185_290 rfl c_185_79 rfl rfl (Nat.le_of_ble_eq_true rfl) (by show (zkn SH 138 == zown 163) = true; rw [show zkn SH 138 = 10 from kn_138]; rfl)
  · refine Eq.trans (s_aloadn f_185_248 rfl) ?_
    refine Eq.trans (s_aloadn f_185_249 rfl) ?_
    refine Eq.trans (s_getR f_185_250 g_185_25 (by decide) kn_138 rf_138_9) ?_
    refine Eq.trans (s_iconst f_185_253) ?_
    refine Eq.trans (s_iload f_185_254 rfl) ?_
    refine Eq.trans (s_imul f_185_256) ?_
    refine Eq.trans (s_iald f_185_257 kn_144 ln_144) (gd_cg fun h2 => ?_)
    refine Eq.trans (s_aloadn f_185_258 rfl) ?_
    refine Eq.trans (s_getR f_185_259 g_185_25 (by decide) kn_138 rf_138_9) ?_
    refine Eq.trans (s_iconst f_185_262) ?_
    refine Eq.trans (s_iload f_185_263 rfl) ?_
    refine Eq.trans (s_imul f_185_265) ?_
    refine Eq.trans (s_iconst f_185_266) ?_
    refine Eq.trans (s_iadd f_185_267) ?_
    refine Eq.trans (s_iald f_185_268 kn_144 ln_144) (gd_cg fun h3 => ?_)
    refine Eq.trans (s_aloadn f_185_269 rfl) ?_
    refine Eq.trans (s_getR f_185_270 g_185_25 (by decide) kn_138 rf_138_9) ?_
    refine Eq.trans (s_iconst f_185_273) ?_
    refine Eq.trans (s_iload f_185_274 rfl) ?_
    refine Eq.trans (s_imul f_185_276) ?_
    refine Eq.trans (s_iconst f_185_277) ?_
    refine Eq.trans (s_iadd f_185_278) ?_
    refine Eq.trans (s_iald f_185_279 kn_144 ln_144) (gd_cg fun h4 => ?_)
    exact s_call [zR 138, zI (M 144 (zw (3 * v4))), zI (M 144 (zw ((zw (3 * v4)) + 1))), zI (M 144 (zw ((zw (3 * v4)) + 2)))] [] f_185_280 rfl c_185_150 rfl rfl (Nat.le_of_ble_eq_true rfl) (by show (zkn SH 138 == zown 184) = true; rw [show zkn SH 138 = 10 from kn_138]; rfl)
theorem q_185_283 {d : Nat} (v1 v2 v3 v4 : Int) (z5 z6 z7 z8 z9 : ZV) (M : ZM) : Q d 185 283 [zR 138, zI v1, zI v2, zI v3, zI v4, z5, z6, z7, z8, z9] [] M = Q d 185 239 [zR 138, zI v1, zI v2, zI v3, zI (zw (v4 + 1)), z5, z6, z7, z8, z9] [] M := by
  refine Eq.trans (s_iinc f_185_283 rfl rfl) ?_
  refine Eq.trans (s_goto 239 f_185_286 (by decide)) ?_
  rfl
theorem q_185_293 {d : Nat} (v1 v2 v3 v4 : Int) (z5 z6 z7 z8 z9 : ZV) (M : ZM) : Q d 185 293 [zR 138, zI v1, zI v2, zI v3, zI v4, z5, z6, z7, z8, z9] [] M = Rt (some (zI (M 139 120))) M := by
  refine Eq.trans (s_aloadn f_185_293 rfl) ?_
  refine Eq.trans (s_getR f_185_294 g_185_7 (by decide) kn_138 rf_138_0) ?_
  refine Eq.trans (s_bipush f_185_297) ?_
  refine Eq.trans (s_iald f_185_299 kn_139 ln_139) (Eq.trans (if_pos (by decide)) ?_)
  exact s_iret f_185_300 t_185
theorem en_185 {d : Nat} (v1 v2 : Int) (M : ZM) : E (d + 1) 185 [zR 138, zI v1, zI v2] M = Q d 185 0 [zR 138, zI v1, zI v2, zU, zU, zU, zU, zU, zU, zU] [] M := e_in (Nat.le_of_ble_eq_true rfl)
-- DungeonBuilderModel.addLoop()I
theorem q_186_0 {d : Nat} (M : ZM) : Q d 186 0 [zR 138, zU, zU, zU, zU] [] M = Q d 186 6 [zR 138, zI (-1), zI (-1), zI 0, zU] [] M := by
  refine Eq.trans (s_iconst f_186_0) ?_
  refine Eq.trans (s_istoren f_186_1 rfl) ?_
  refine Eq.trans (s_iconst f_186_2) ?_
  refine Eq.trans (s_istoren f_186_3 rfl) ?_
  refine Eq.trans (s_iconst f_186_4) ?_
  refine Eq.trans (s_istoren f_186_5 rfl) ?_
  rfl
theorem q_186_6 {d : Nat} (v1 v2 v3 : Int) (z4 : ZV) (M : ZM) : Q d 186 6 [zR 138, zI v1, zI v2, zI v3, z4] [] M = if (M 139 120) ≤ v3 then (if v1 ≠ (-1) then (Cb (E d 162 [zR 138] M) (fun v h => zrun (zevl d) 186 95 [zR 138, zI v1, zI v2, zI v3, z4] (v.toList ++ []) h)) else (Rt (some (zI (-104))) M)) else (Q d 186 22 [zR 138, zI v1, zI v2, zI v3, zI (zw (v3 + 1))] [] M) := by
  refine Eq.trans (s_iloadn f_186_6 rfl) ?_
  refine Eq.trans (s_aloadn f_186_7 rfl) ?_
  refine Eq.trans (s_getR f_186_8 g_186_7 (by decide) kn_138 rf_138_0) ?_
  refine Eq.trans (s_bipush f_186_11) ?_
  refine Eq.trans (s_iald f_186_13 kn_139 ln_139) (Eq.trans (if_pos (by decide)) ?_)
  refine Eq.trans (s_icmp (P := (M 139 120) ≤ v3) 83 f_186_14 (by decide) rfl) (ite_cg (fun h1 => ?_) (fun h1 => ?_))
  · refine Eq.trans (s_iloadn f_186_83 rfl) ?_
    refine Eq.trans (s_iconst f_186_84) ?_
    refine Eq.trans (s_icmp (P := v1 ≠ (-1)) 91 f_186_85 (by decide) rfl) (ite_cg (fun h2 => ?_) (fun h2 => ?_))
    · refine Eq.trans (s_aloadn f_186_91 rfl) ?_
      exact s_call [zR 138] [] f_186_92 rfl c_186_101 rfl rfl (Nat.le_of_ble_eq_true rfl) (by show (zkn SH 138 == zown 162) = true; rw [show zkn SH 138 = 10 from kn_138]; rfl)
    · refine Eq.trans (s_bipush f_186_88) ?_
      exact s_iret f_186_90 t_186
  · refine Eq.trans (s_iloadn f_186_17 rfl) ?_
    refine Eq.trans (s_iconst f_186_18) ?_
    refine Eq.trans (s_iadd f_186_19) ?_
    refine Eq.trans (s_istore f_186_20 rfl) ?_
    rfl
theorem q_186_22 {d : Nat} (v1 v2 v3 v4 : Int) (M : ZM) : Q d 186 22 [zR 138, zI v1, zI v2, zI v3, zI v4] [] M = if (M 139 120) ≤ v4 then (Q d 186 6 [zR 138, zI v1, zI v2, zI (zw (v3 + 1)), zI v4] [] M) else (Cb (E d 167 [zR 138, zI v3, zI v4] M) (fun v h => zrun (zevl d) 186 41 [zR 138, zI v1, zI v2, zI v3, zI v4] (v.toList ++ []) h)) := by
  refine Eq.trans (s_iload f_186_22 rfl) ?_
  refine Eq.trans (s_aloadn f_186_24 rfl) ?_
  refine Eq.trans (s_getR f_186_25 g_186_7 (by decide) kn_138 rf_138_0) ?_
  refine Eq.trans (s_bipush f_186_28) ?_
  refine Eq.trans (s_iald f_186_30 kn_139 ln_139) (Eq.trans (if_pos (by decide)) ?_)
  refine Eq.trans (s_icmp (P := (M 139 120) ≤ v4) 77 f_186_31 (by decide) rfl) (ite_cg (fun h1 => ?_) (fun h1 => ?_))
  · refine Eq.trans (s_iinc f_186_77 rfl rfl) ?_
    refine Eq.trans (s_goto 6 f_186_80 (by decide)) ?_
    rfl
  · refine Eq.trans (s_aloadn f_186_34 rfl) ?_
    refine Eq.trans (s_iloadn f_186_35 rfl) ?_
    refine Eq.trans (s_iload f_186_36 rfl) ?_
    exact s_call [zR 138, zI v3, zI v4] [] f_186_38 rfl c_186_92 rfl rfl (Nat.le_of_ble_eq_true rfl) (by show (zkn SH 138 == zown 167) = true; rw [show zkn SH 138 = 10 from kn_138]; rfl)
theorem q_186_41 {d : Nat} (v1 v2 v3 v4 s0 : Int) (M : ZM) : Q d 186 41 [zR 138, zI v1, zI v2, zI v3, zI v4] [zI s0] M = if s0 ≠ (-1) then (Q d 186 22 [zR 138, zI v1, zI v2, zI v3, zI (zw (v4 + 1))] [] M) else (if v1 = (-1) then (Q d 186 22 [zR 138, zI v3, zI v4, zI v3, zI (zw (v4 + 1))] [] M) else (Cb (E d 161 [zR 138, zI v3, zI v4] M) (fun v h => zrun (zevl d) 186 57 [zR 138, zI v1, zI v2, zI v3, zI v4] (v.toList ++ []) h))) := by
  refine Eq.trans (s_iconst f_186_41) ?_
  refine Eq.trans (s_icmp (P := s0 ≠ (-1)) 71 f_186_42 (by decide) rfl) (ite_cg (fun h1 => ?_) (fun h1 => ?_))
  · refine Eq.trans (s_iinc f_186_71 rfl rfl) ?_
    refine Eq.trans (s_goto 22 f_186_74 (by decide)) ?_
    rfl
  · refine Eq.trans (s_iloadn f_186_45 rfl) ?_
    refine Eq.trans (s_iconst f_186_46) ?_
    refine Eq.trans (s_icmp (P := v1 = (-1)) 66 f_186_47 (by decide) rfl) (ite_cg (fun h2 => ?_) (fun h2 => ?_))
    · refine Eq.trans (s_iloadn f_186_66 rfl) ?_
      refine Eq.trans (s_istoren f_186_67 rfl) ?_
      refine Eq.trans (s_iload f_186_68 rfl) ?_
      refine Eq.trans (s_istoren f_186_70 rfl) ?_
      refine Eq.trans (s_iinc f_186_71 rfl rfl) ?_
      refine Eq.trans (s_goto 22 f_186_74 (by decide)) ?_
      rfl
    · refine Eq.trans (s_aloadn f_186_50 rfl) ?_
      refine Eq.trans (s_iloadn f_186_51 rfl) ?_
      refine Eq.trans (s_iload f_186_52 rfl) ?_
      exact s_call [zR 138, zI v3, zI v4] [] f_186_54 rfl c_186_144 rfl rfl (Nat.le_of_ble_eq_true rfl) (by show (zkn SH 138 == zown 161) = true; rw [show zkn SH 138 = 10 from kn_138]; rfl)
theorem q_186_57 {d : Nat} (v1 v2 v3 v4 s0 : Int) (M : ZM) : Q d 186 57 [zR 138, zI v1, zI v2, zI v3, zI v4] [zI s0] M = Cb (E d 161 [zR 138, zI v1, zI v2] M) (fun v h => zrun (zevl d) 186 63 [zR 138, zI v1, zI v2, zI v3, zI v4] (v.toList ++ [zI s0]) h) := by
  refine Eq.trans (s_aloadn f_186_57 rfl) ?_
  refine Eq.trans (s_iloadn f_186_58 rfl) ?_
  refine Eq.trans (s_iloadn f_186_59 rfl) ?_
  exact s_call [zR 138, zI v1, zI v2] [zI s0] f_186_60 rfl c_186_144 rfl rfl (Nat.le_of_ble_eq_true rfl) (by show (zkn SH 138 == zown 161) = true; rw [show zkn SH 138 = 10 from kn_138]; rfl)
theorem q_186_63 {d : Nat} (v1 v2 v3 v4 s0 s1 : Int) (M : ZM) : Q d 186 63 [zR 138, zI v1, zI v2, zI v3, zI v4] [zI s1, zI s0] M = if s1 ≤ s0 then (Q d 186 22 [zR 138, zI v1, zI v2, zI v3, zI (zw (v4 + 1))] [] M) else (Q d 186 22 [zR 138, zI v3, zI v4, zI v3, zI (zw (v4 + 1))] [] M) := by
  refine Eq.trans (s_icmp (P := s1 ≤ s0) 71 f_186_63 (by decide) rfl) (ite_cg (fun h1 => ?_) (fun h1 => ?_))
  · refine Eq.trans (s_iinc f_186_71 rfl rfl) ?_
    refine Eq.trans (s_goto 22 f_186_74 (by decide)) ?_
    rfl
  · refine Eq.trans (s_iloadn f_186_66 rfl) ?_
    refine Eq.trans (s_istoren f_186_67 rfl) ?_
    refine Eq.trans (s_iload f_186_68 rfl) ?_
    refine Eq.trans (s_istoren f_186_70 rfl) ?_
    refine Eq.trans (s_iinc f_186_71 rfl rfl) ?_
    refine Eq.trans (s_goto 22 f_186_74 (by decide)) ?_
    rfl
theorem q_186_95 {d : Nat} (v1 v2 v3 : Int) (z4 : ZV) (M : ZM) : Q d 186 95 [zR 138, zI v1, zI v2, zI v3, z4] [] M = Cb (E d 168 [zR 138, zI v1, zI v2] M) (fun v h => zrun (zevl d) 186 101 [zR 138, zI v1, zI v2, zI v3, z4] (v.toList ++ []) h) := by
  refine Eq.trans (s_aloadn f_186_95 rfl) ?_
  refine Eq.trans (s_iloadn f_186_96 rfl) ?_
  refine Eq.trans (s_iloadn f_186_97 rfl) ?_
  exact s_call [zR 138, zI v1, zI v2] [] f_186_98 rfl c_186_111 rfl rfl (Nat.le_of_ble_eq_true rfl) (by show (zkn SH 138 == zown 168) = true; rw [show zkn SH 138 = 10 from kn_138]; rfl)
theorem q_186_101 {d : Nat} (v1 v2 v3 s0 : Int) (z4 : ZV) (M : ZM) : Q d 186 101 [zR 138, zI v1, zI v2, zI v3, z4] [zI s0] M = if s0 < 0 then (Q d 186 110 [zR 138, zI v1, zI v2, zI s0, z4] [] M) else (Cb (E d 163 [zR 138] M) (fun v h => zrun (zevl d) 186 110 [zR 138, zI v1, zI v2, zI s0, z4] (v.toList ++ []) h)) := by
  refine Eq.trans (s_istoren f_186_101 rfl) ?_
  refine Eq.trans (s_iloadn f_186_102 rfl) ?_
  refine Eq.trans (s_if (P := s0 < 0) 110 f_186_103 (by decide) rfl) (ite_cg (fun h1 => ?_) (fun h1 => ?_))
  · rfl
  · refine Eq.trans (s_aloadn f_186_106 rfl) ?_
    exact s_call [zR 138] [] f_186_107 rfl c_186_79 rfl rfl (Nat.le_of_ble_eq_true rfl) (by show (zkn SH 138 == zown 163) = true; rw [show zkn SH 138 = 10 from kn_138]; rfl)
theorem q_186_110 {d : Nat} (v1 v2 v3 : Int) (z4 : ZV) (M : ZM) : Q d 186 110 [zR 138, zI v1, zI v2, zI v3, z4] [] M = Rt (some (zI v3)) M := by
  refine Eq.trans (s_iloadn f_186_110 rfl) ?_
  exact s_iret f_186_111 t_186
theorem en_186 {d : Nat} (M : ZM) : E (d + 1) 186 [zR 138] M = Q d 186 0 [zR 138, zU, zU, zU, zU] [] M := e_in (Nat.le_of_ble_eq_true rfl)
-- DungeonBuilderModel.tellDepths(II)V
theorem q_187_0 {d : Nat} (v1 v2 : Int) (M : ZM) : Q d 187 0 [zR 138, zI v1, zI v2, zU, zU, zU, zU] [] M = Q d 187 2 [zR 138, zI v1, zI v2, zI 0, zU, zU, zU] [] M := by
  refine Eq.trans (s_iconst f_187_0) ?_
  refine Eq.trans (s_istoren f_187_1 rfl) ?_
  rfl
theorem q_187_2 {d : Nat} (v1 v2 v3 : Int) (M : ZM) : Q d 187 2 [zR 138, zI v1, zI v2, zI v3, zU, zU, zU] [] M = if 12 ≤ v3 then (Q d 187 43 [zR 138, zI v1, zI v2, zI 0, zU, zU, zU] [] M) else (if v3 ≠ v1 then (if 0 ≤ v3 ∧ v3 < 12 then Q d 187 2 [zR 138, zI v1, zI v2, zI (zw (v3 + 1)), zU, zU, zU] [] (zwr M 145 v3 (-1)) else none) else (if (M 139 120) ≤ v3 then (if 0 ≤ v3 ∧ v3 < 12 then Q d 187 2 [zR 138, zI v1, zI v2, zI (zw (v3 + 1)), zU, zU, zU] [] (zwr M 145 v3 (-1)) else none) else (if 0 ≤ v3 ∧ v3 < 12 then Q d 187 2 [zR 138, zI v1, zI v2, zI (zw (v3 + 1)), zU, zU, zU] [] (zwr M 145 v3 0) else none))) := by
  refine Eq.trans (s_iloadn f_187_2 rfl) ?_
  refine Eq.trans (s_bipush f_187_3) ?_
  refine Eq.trans (s_icmp (P := 12 ≤ v3) 41 f_187_5 (by decide) rfl) (ite_cg (fun h1 => ?_) (fun h1 => ?_))
  · refine Eq.trans (s_iconst f_187_41) ?_
    refine Eq.trans (s_istoren f_187_42 rfl) ?_
    rfl
  · refine Eq.trans (s_aloadn f_187_8 rfl) ?_
    refine Eq.trans (s_getR f_187_9 g_187_28 (by decide) kn_138 rf_138_11) ?_
    refine Eq.trans (s_iloadn f_187_12 rfl) ?_
    refine Eq.trans (s_iloadn f_187_13 rfl) ?_
    refine Eq.trans (s_iloadn f_187_14 rfl) ?_
    refine Eq.trans (s_icmp (P := v3 ≠ v1) 33 f_187_15 (by decide) rfl) (ite_cg (fun h2 => ?_) (fun h2 => ?_))
    · refine Eq.trans (s_iconst f_187_33) ?_
      refine Eq.trans (s_iast f_187_34 kn_145 ln_145) (gd_cg fun h3 => ?_)
      refine Eq.trans (s_iinc f_187_35 rfl rfl) ?_
      refine Eq.trans (s_goto 2 f_187_38 (by decide)) ?_
      rfl
    · refine Eq.trans (s_iloadn f_187_18 rfl) ?_
      refine Eq.trans (s_aloadn f_187_19 rfl) ?_
      refine Eq.trans (s_getR f_187_20 g_187_7 (by decide) kn_138 rf_138_0) ?_
      refine Eq.trans (s_bipush f_187_23) ?_
      refine Eq.trans (s_iald f_187_25 kn_139 ln_139) (Eq.trans (if_pos (by decide)) ?_)
      refine Eq.trans (s_icmp (P := (M 139 120) ≤ v3) 33 f_187_26 (by decide) rfl) (ite_cg (fun h4 => ?_) (fun h4 => ?_))
      · refine Eq.trans (s_iconst f_187_33) ?_
        refine Eq.trans (s_iast f_187_34 kn_145 ln_145) (gd_cg fun h5 => ?_)
        refine Eq.trans (s_iinc f_187_35 rfl rfl) ?_
        refine Eq.trans (s_goto 2 f_187_38 (by decide)) ?_
        rfl
      · refine Eq.trans (s_iconst f_187_29) ?_
        refine Eq.trans (s_goto 34 f_187_30 (by decide)) ?_
        refine Eq.trans (s_iast f_187_34 kn_145 ln_145) (gd_cg fun h6 => ?_)
        refine Eq.trans (s_iinc f_187_35 rfl rfl) ?_
        refine Eq.trans (s_goto 2 f_187_38 (by decide)) ?_
        rfl
theorem q_187_43 {d : Nat} (v1 v2 v3 : Int) (z4 z5 z6 : ZV) (M : ZM) : Q d 187 43 [zR 138, zI v1, zI v2, zI v3, z4, z5, z6] [] M = if 12 ≤ v3 then (Rt none M) else (Q d 187 52 [zR 138, zI v1, zI v2, zI v3, zI 0, z5, z6] [] M) := by
  refine Eq.trans (s_iloadn f_187_43 rfl) ?_
  refine Eq.trans (s_bipush f_187_44) ?_
  refine Eq.trans (s_icmp (P := 12 ≤ v3) 173 f_187_46 (by decide) rfl) (ite_cg (fun h1 => ?_) (fun h1 => ?_))
  · exact s_vret f_187_173 t_187
  · refine Eq.trans (s_iconst f_187_49) ?_
    refine Eq.trans (s_istore f_187_50 rfl) ?_
    rfl
theorem q_187_52 {d : Nat} (v1 v2 v3 v4 : Int) (z5 z6 : ZV) (M : ZM) : Q d 187 52 [zR 138, zI v1, zI v2, zI v3, zI v4, z5, z6] [] M = if (M 139 121) ≤ v4 then (Q d 187 43 [zR 138, zI v1, zI v2, zI (zw (v3 + 1)), zI v4, z5, z6] [] M) else (Cb (E d 157 [zR 138, zI v4, zI 0] M) (fun v h => zrun (zevl d) 187 71 [zR 138, zI v1, zI v2, zI v3, zI v4, z5, z6] (v.toList ++ []) h)) := by
  refine Eq.trans (s_iload f_187_52 rfl) ?_
  refine Eq.trans (s_aloadn f_187_54 rfl) ?_
  refine Eq.trans (s_getR f_187_55 g_187_7 (by decide) kn_138 rf_138_0) ?_
  refine Eq.trans (s_bipush f_187_58) ?_
  refine Eq.trans (s_iald f_187_60 kn_139 ln_139) (Eq.trans (if_pos (by decide)) ?_)
  refine Eq.trans (s_icmp (P := (M 139 121) ≤ v4) 167 f_187_61 (by decide) rfl) (ite_cg (fun h1 => ?_) (fun h1 => ?_))
  · refine Eq.trans (s_iinc f_187_167 rfl rfl) ?_
    refine Eq.trans (s_goto 43 f_187_170 (by decide)) ?_
    rfl
  · refine Eq.trans (s_aloadn f_187_64 rfl) ?_
    refine Eq.trans (s_iload f_187_65 rfl) ?_
    refine Eq.trans (s_iconst f_187_67) ?_
    exact s_call [zR 138, zI v4, zI 0] [] f_187_68 rfl c_187_85 rfl rfl (Nat.le_of_ble_eq_true rfl) (by show (zkn SH 138 == zown 157) = true; rw [show zkn SH 138 = 10 from kn_138]; rfl)
theorem q_187_71 {d : Nat} (v1 v2 v3 v4 s0 : Int) (z5 z6 : ZV) (M : ZM) : Q d 187 71 [zR 138, zI v1, zI v2, zI v3, zI v4, z5, z6] [zI s0] M = Cb (E d 157 [zR 138, zI v4, zI 1] M) (fun v h => zrun (zevl d) 187 80 [zR 138, zI v1, zI v2, zI v3, zI v4, zI s0, z6] (v.toList ++ []) h) := by
  refine Eq.trans (s_istore f_187_71 rfl) ?_
  refine Eq.trans (s_aloadn f_187_73 rfl) ?_
  refine Eq.trans (s_iload f_187_74 rfl) ?_
  refine Eq.trans (s_iconst f_187_76) ?_
  exact s_call [zR 138, zI v4, zI 1] [] f_187_77 rfl c_187_85 rfl rfl (Nat.le_of_ble_eq_true rfl) (by show (zkn SH 138 == zown 157) = true; rw [show zkn SH 138 = 10 from kn_138]; rfl)
theorem q_187_80 {d : Nat} (v1 v2 v3 v4 v5 s0 : Int) (z6 : ZV) (M : ZM) : Q d 187 80 [zR 138, zI v1, zI v2, zI v3, zI v4, zI v5, z6] [zI s0] M = if v4 = v2 then (Q d 187 123 [zR 138, zI v1, zI v2, zI v3, zI v4, zI v5, zI s0] [] M) else (if 0 ≤ v5 ∧ v5 < 12 then if (M 145 v5) ≠ v3 then (Q d 187 123 [zR 138, zI v1, zI v2, zI v3, zI v4, zI v5, zI s0] [] M) else (if 0 ≤ s0 ∧ s0 < 12 then if (M 145 s0) ≠ (-1) then (Q d 187 123 [zR 138, zI v1, zI v2, zI v3, zI v4, zI v5, zI s0] [] M) else (if 0 ≤ s0 ∧ s0 < 12 then Q d 187 52 [zR 138, zI v1, zI v2, zI v3, zI (zw (v4 + 1)), zI v5, zI s0] [] (zwr M 145 s0 (zw (v3 + 1))) else none) else none) else none) := by
  refine Eq.trans (s_istore f_187_80 rfl) ?_
  refine Eq.trans (s_iload f_187_82 rfl) ?_
  refine Eq.trans (s_iloadn f_187_84 rfl) ?_
  refine Eq.trans (s_icmp (P := v4 = v2) 123 f_187_85 (by decide) rfl) (ite_cg (fun h1 => ?_) (fun h1 => ?_))
  · rfl
  · refine Eq.trans (s_aloadn f_187_88 rfl) ?_
    refine Eq.trans (s_getR f_187_89 g_187_28 (by decide) kn_138 rf_138_11) ?_
    refine Eq.trans (s_iload f_187_92 rfl) ?_
    refine Eq.trans (s_iald f_187_94 kn_145 ln_145) (gd_cg fun h2 => ?_)
    refine Eq.trans (s_iloadn f_187_95 rfl) ?_
    refine Eq.trans (s_icmp (P := (M 145 v5) ≠ v3) 123 f_187_96 (by decide) rfl) (ite_cg (fun h3 => ?_) (fun h3 => ?_))
    · rfl
    · refine Eq.trans (s_aloadn f_187_99 rfl) ?_
      refine Eq.trans (s_getR f_187_100 g_187_28 (by decide) kn_138 rf_138_11) ?_
      refine Eq.trans (s_iload f_187_103 rfl) ?_
      refine Eq.trans (s_iald f_187_105 kn_145 ln_145) (gd_cg fun h4 => ?_)
      refine Eq.trans (s_iconst f_187_106) ?_
      refine Eq.trans (s_icmp (P := (M 145 s0) ≠ (-1)) 123 f_187_107 (by decide) rfl) (ite_cg (fun h5 => ?_) (fun h5 => ?_))
      · rfl
      · refine Eq.trans (s_aloadn f_187_110 rfl) ?_
        refine Eq.trans (s_getR f_187_111 g_187_28 (by decide) kn_138 rf_138_11) ?_
        refine Eq.trans (s_iload f_187_114 rfl) ?_
        refine Eq.trans (s_iloadn f_187_116 rfl) ?_
        refine Eq.trans (s_iconst f_187_117) ?_
        refine Eq.trans (s_iadd f_187_118) ?_
        refine Eq.trans (s_iast f_187_119 kn_145 ln_145) (gd_cg fun h6 => ?_)
        refine Eq.trans (s_goto 161 f_187_120 (by decide)) ?_
        refine Eq.trans (s_iinc f_187_161 rfl rfl) ?_
        refine Eq.trans (s_goto 52 f_187_164 (by decide)) ?_
        rfl
theorem q_187_123 {d : Nat} (v1 v2 v3 v4 v5 v6 : Int) (M : ZM) : Q d 187 123 [zR 138, zI v1, zI v2, zI v3, zI v4, zI v5, zI v6] [] M = if v4 = v2 then (Q d 187 52 [zR 138, zI v1, zI v2, zI v3, zI (zw (v4 + 1)), zI v5, zI v6] [] M) else (if 0 ≤ v6 ∧ v6 < 12 then if (M 145 v6) ≠ v3 then (Q d 187 52 [zR 138, zI v1, zI v2, zI v3, zI (zw (v4 + 1)), zI v5, zI v6] [] M) else (if 0 ≤ v5 ∧ v5 < 12 then if (M 145 v5) ≠ (-1) then (Q d 187 52 [zR 138, zI v1, zI v2, zI v3, zI (zw (v4 + 1)), zI v5, zI v6] [] M) else (if 0 ≤ v5 ∧ v5 < 12 then Q d 187 52 [zR 138, zI v1, zI v2, zI v3, zI (zw (v4 + 1)), zI v5, zI v6] [] (zwr M 145 v5 (zw (v3 + 1))) else none) else none) else none) := by
  refine Eq.trans (s_iload f_187_123 rfl) ?_
  refine Eq.trans (s_iloadn f_187_125 rfl) ?_
  refine Eq.trans (s_icmp (P := v4 = v2) 161 f_187_126 (by decide) rfl) (ite_cg (fun h1 => ?_) (fun h1 => ?_))
  · refine Eq.trans (s_iinc f_187_161 rfl rfl) ?_
    refine Eq.trans (s_goto 52 f_187_164 (by decide)) ?_
    rfl
  · refine Eq.trans (s_aloadn f_187_129 rfl) ?_
    refine Eq.trans (s_getR f_187_130 g_187_28 (by decide) kn_138 rf_138_11) ?_
    refine Eq.trans (s_iload f_187_133 rfl) ?_
    refine Eq.trans (s_iald f_187_135 kn_145 ln_145) (gd_cg fun h2 => ?_)
    refine Eq.trans (s_iloadn f_187_136 rfl) ?_
    refine Eq.trans (s_icmp (P := (M 145 v6) ≠ v3) 161 f_187_137 (by decide) rfl) (ite_cg (fun h3 => ?_) (fun h3 => ?_))
    · refine Eq.trans (s_iinc f_187_161 rfl rfl) ?_
      refine Eq.trans (s_goto 52 f_187_164 (by decide)) ?_
      rfl
    · refine Eq.trans (s_aloadn f_187_140 rfl) ?_
      refine Eq.trans (s_getR f_187_141 g_187_28 (by decide) kn_138 rf_138_11) ?_
      refine Eq.trans (s_iload f_187_144 rfl) ?_
      refine Eq.trans (s_iald f_187_146 kn_145 ln_145) (gd_cg fun h4 => ?_)
      refine Eq.trans (s_iconst f_187_147) ?_
      refine Eq.trans (s_icmp (P := (M 145 v5) ≠ (-1)) 161 f_187_148 (by decide) rfl) (ite_cg (fun h5 => ?_) (fun h5 => ?_))
      · refine Eq.trans (s_iinc f_187_161 rfl rfl) ?_
        refine Eq.trans (s_goto 52 f_187_164 (by decide)) ?_
        rfl
      · refine Eq.trans (s_aloadn f_187_151 rfl) ?_
        refine Eq.trans (s_getR f_187_152 g_187_28 (by decide) kn_138 rf_138_11) ?_
        refine Eq.trans (s_iload f_187_155 rfl) ?_
        refine Eq.trans (s_iloadn f_187_157 rfl) ?_
        refine Eq.trans (s_iconst f_187_158) ?_
        refine Eq.trans (s_iadd f_187_159) ?_
        refine Eq.trans (s_iast f_187_160 kn_145 ln_145) (gd_cg fun h6 => ?_)
        refine Eq.trans (s_iinc f_187_161 rfl rfl) ?_
        refine Eq.trans (s_goto 52 f_187_164 (by decide)) ?_
        rfl
theorem en_187 {d : Nat} (v1 v2 : Int) (M : ZM) : E (d + 1) 187 [zR 138, zI v1, zI v2] M = Q d 187 0 [zR 138, zI v1, zI v2, zU, zU, zU, zU] [] M := e_in (Nat.le_of_ble_eq_true rfl)
-- DungeonBuilderModel.depthOf(I)I
theorem q_188_0 {d : Nat} (v1 : Int) (M : ZM) : Q d 188 0 [zR 138, zI v1] [] M = Cb (E d 187 [zR 138, zI (M 139 122), zI (-1)] M) (fun v h => zrun (zevl d) 188 12 [zR 138, zI v1] (v.toList ++ []) h) := by
  refine Eq.trans (s_aloadn f_188_0 rfl) ?_
  refine Eq.trans (s_aloadn f_188_1 rfl) ?_
  refine Eq.trans (s_getR f_188_2 g_188_7 (by decide) kn_138 rf_138_0) ?_
  refine Eq.trans (s_bipush f_188_5) ?_
  refine Eq.trans (s_iald f_188_7 kn_139 ln_139) (Eq.trans (if_pos (by decide)) ?_)
  refine Eq.trans (s_iconst f_188_8) ?_
  exact s_call [zR 138, zI (M 139 122), zI (-1)] [] f_188_9 rfl c_188_154 rfl rfl (Nat.le_of_ble_eq_true rfl) (by show (zkn SH 138 == zown 187) = true; rw [show zkn SH 138 = 10 from kn_138]; rfl)
theorem q_188_12 {d : Nat} (v1 : Int) (M : ZM) : Q d 188 12 [zR 138, zI v1] [] M = if 0 ≤ v1 ∧ v1 < 12 then Rt (some (zI (M 145 v1))) M else none := by
  refine Eq.trans (s_aloadn f_188_12 rfl) ?_
  refine Eq.trans (s_getR f_188_13 g_188_28 (by decide) kn_138 rf_138_11) ?_
  refine Eq.trans (s_iloadn f_188_16 rfl) ?_
  refine Eq.trans (s_iald f_188_17 kn_145 ln_145) (gd_cg fun h1 => ?_)
  exact s_iret f_188_18 t_188
theorem en_188 {d : Nat} (v1 : Int) (M : ZM) : E (d + 1) 188 [zR 138, zI v1] M = Q d 188 0 [zR 138, zI v1] [] M := e_in (Nat.le_of_ble_eq_true rfl)
-- DungeonBuilderModel.degreeOf(I)I
theorem q_189_0 {d : Nat} (v1 : Int) (M : ZM) : Q d 189 0 [zR 138, zI v1, zU, zU] [] M = Q d 189 4 [zR 138, zI v1, zI 0, zI 0] [] M := by
  refine Eq.trans (s_iconst f_189_0) ?_
  refine Eq.trans (s_istoren f_189_1 rfl) ?_
  refine Eq.trans (s_iconst f_189_2) ?_
  refine Eq.trans (s_istoren f_189_3 rfl) ?_
  rfl
theorem q_189_4 {d : Nat} (v1 v2 v3 : Int) (M : ZM) : Q d 189 4 [zR 138, zI v1, zI v2, zI v3] [] M = if (M 139 121) ≤ v3 then (Rt (some (zI v2)) M) else (Cb (E d 157 [zR 138, zI v3, zI 0] M) (fun v h => zrun (zevl d) 189 22 [zR 138, zI v1, zI v2, zI v3] (v.toList ++ [zI v2]) h)) := by
  refine Eq.trans (s_iloadn f_189_4 rfl) ?_
  refine Eq.trans (s_aloadn f_189_5 rfl) ?_
  refine Eq.trans (s_getR f_189_6 g_189_7 (by decide) kn_138 rf_138_0) ?_
  refine Eq.trans (s_bipush f_189_9) ?_
  refine Eq.trans (s_iald f_189_11 kn_139 ln_139) (Eq.trans (if_pos (by decide)) ?_)
  refine Eq.trans (s_icmp (P := (M 139 121) ≤ v3) 49 f_189_12 (by decide) rfl) (ite_cg (fun h1 => ?_) (fun h1 => ?_))
  · refine Eq.trans (s_iloadn f_189_49 rfl) ?_
    exact s_iret f_189_50 t_189
  · refine Eq.trans (s_iloadn f_189_15 rfl) ?_
    refine Eq.trans (s_aloadn f_189_16 rfl) ?_
    refine Eq.trans (s_iloadn f_189_17 rfl) ?_
    refine Eq.trans (s_iconst f_189_18) ?_
    exact s_call [zR 138, zI v3, zI 0] [zI v2] f_189_19 rfl c_189_85 rfl rfl (Nat.le_of_ble_eq_true rfl) (by show (zkn SH 138 == zown 157) = true; rw [show zkn SH 138 = 10 from kn_138]; rfl)
theorem q_189_22 {d : Nat} (v1 v2 v3 s0 s1 : Int) (M : ZM) : Q d 189 22 [zR 138, zI v1, zI v2, zI v3] [zI s1, zI s0] M = if s1 = v1 then (Q d 189 4 [zR 138, zI v1, zI (zw (s0 + 1)), zI (zw (v3 + 1))] [] M) else (Cb (E d 157 [zR 138, zI v3, zI 1] M) (fun v h => zrun (zevl d) 189 32 [zR 138, zI v1, zI v2, zI v3] (v.toList ++ [zI s0]) h)) := by
  refine Eq.trans (s_iloadn f_189_22 rfl) ?_
  refine Eq.trans (s_icmp (P := s1 = v1) 36 f_189_23 (by decide) rfl) (ite_cg (fun h1 => ?_) (fun h1 => ?_))
  · refine Eq.trans (s_iconst f_189_36) ?_
    refine Eq.trans (s_goto 41 f_189_37 (by decide)) ?_
    refine Eq.trans (s_iadd f_189_41) ?_
    refine Eq.trans (s_istoren f_189_42 rfl) ?_
    refine Eq.trans (s_iinc f_189_43 rfl rfl) ?_
    refine Eq.trans (s_goto 4 f_189_46 (by decide)) ?_
    rfl
  · refine Eq.trans (s_aloadn f_189_26 rfl) ?_
    refine Eq.trans (s_iloadn f_189_27 rfl) ?_
    refine Eq.trans (s_iconst f_189_28) ?_
    exact s_call [zR 138, zI v3, zI 1] [zI s0] f_189_29 rfl c_189_85 rfl rfl (Nat.le_of_ble_eq_true rfl) (by show (zkn SH 138 == zown 157) = true; rw [show zkn SH 138 = 10 from kn_138]; rfl)
theorem q_189_32 {d : Nat} (v1 v2 v3 s0 s1 : Int) (M : ZM) : Q d 189 32 [zR 138, zI v1, zI v2, zI v3] [zI s1, zI s0] M = if s1 ≠ v1 then (Q d 189 4 [zR 138, zI v1, zI (zw (s0 + 0)), zI (zw (v3 + 1))] [] M) else (Q d 189 4 [zR 138, zI v1, zI (zw (s0 + 1)), zI (zw (v3 + 1))] [] M) := by
  refine Eq.trans (s_iloadn f_189_32 rfl) ?_
  refine Eq.trans (s_icmp (P := s1 ≠ v1) 40 f_189_33 (by decide) rfl) (ite_cg (fun h1 => ?_) (fun h1 => ?_))
  · refine Eq.trans (s_iconst f_189_40) ?_
    refine Eq.trans (s_iadd f_189_41) ?_
    refine Eq.trans (s_istoren f_189_42 rfl) ?_
    refine Eq.trans (s_iinc f_189_43 rfl rfl) ?_
    refine Eq.trans (s_goto 4 f_189_46 (by decide)) ?_
    rfl
  · refine Eq.trans (s_iconst f_189_36) ?_
    refine Eq.trans (s_goto 41 f_189_37 (by decide)) ?_
    refine Eq.trans (s_iadd f_189_41) ?_
    refine Eq.trans (s_istoren f_189_42 rfl) ?_
    refine Eq.trans (s_iinc f_189_43 rfl rfl) ?_
    refine Eq.trans (s_goto 4 f_189_46 (by decide)) ?_
    rfl
theorem en_189 {d : Nat} (v1 : Int) (M : ZM) : E (d + 1) 189 [zR 138, zI v1] M = Q d 189 0 [zR 138, zI v1, zU, zU] [] M := e_in (Nat.le_of_ble_eq_true rfl)
-- DungeonBuilderModel.difficultyOf(I)I
theorem q_190_0 {d : Nat} (v1 : Int) (M : ZM) : Q d 190 0 [zR 138, zI v1, zU] [] M = Cb (E d 188 [zR 138, zI v1] M) (fun v h => zrun (zevl d) 190 5 [zR 138, zI v1, zU] (v.toList ++ []) h) := by
  refine Eq.trans (s_aloadn f_190_0 rfl) ?_
  refine Eq.trans (s_iloadn f_190_1 rfl) ?_
  exact s_call [zR 138, zI v1] [] f_190_2 rfl c_190_158 rfl rfl (Nat.le_of_ble_eq_true rfl) (by show (zkn SH 138 == zown 188) = true; rw [show zkn SH 138 = 10 from kn_138]; rfl)
theorem q_190_5 {d : Nat} (v1 s0 : Int) (M : ZM) : Q d 190 5 [zR 138, zI v1, zU] [zI s0] M = if s0 ≠ (-1) then (if (M 139 123) = 0 then (Rt (some (zI (zw (10 * s0)))) M) else (if (M 139 123) = 1 then (Cb (E d 156 [zR 138, zI v1, zI 2] M) (fun v h => zrun (zevl d) 190 62 [zR 138, zI v1, zI s0] (v.toList ++ [zI (zw (s0 * s0))]) h)) else (Cb (E d 189 [zR 138, zI v1] M) (fun v h => zrun (zevl d) 190 82 [zR 138, zI v1, zI s0] (v.toList ++ [zI 10, zI 100]) h)))) else (Rt (some (zI 500)) M) := by
  refine Eq.trans (s_istoren f_190_5 rfl) ?_
  refine Eq.trans (s_iloadn f_190_6 rfl) ?_
  refine Eq.trans (s_iconst f_190_7) ?_
  refine Eq.trans (s_icmp (P := s0 ≠ (-1)) 15 f_190_8 (by decide) rfl) (ite_cg (fun h1 => ?_) (fun h1 => ?_))
  · refine Eq.trans (s_aloadn f_190_15 rfl) ?_
    refine Eq.trans (s_getR f_190_16 g_190_7 (by decide) kn_138 rf_138_0) ?_
    refine Eq.trans (s_bipush f_190_19) ?_
    refine Eq.trans (s_iald f_190_21 kn_139 ln_139) (Eq.trans (if_pos (by decide)) ?_)
    refine Eq.trans (w_190_22) ?_
    refine ite_cg (fun h3 => ?_) (fun h3 => ?_)
    · refine Eq.trans (s_bipush f_190_48) ?_
      refine Eq.trans (s_iloadn f_190_50 rfl) ?_
      refine Eq.trans (s_imul f_190_51) ?_
      exact s_iret f_190_52 t_190
    refine ite_cg (fun h4 => ?_) (fun h4 => ?_)
    · refine Eq.trans (s_iloadn f_190_53 rfl) ?_
      refine Eq.trans (s_iloadn f_190_54 rfl) ?_
      refine Eq.trans (s_imul f_190_55) ?_
      refine Eq.trans (s_aloadn f_190_56 rfl) ?_
      refine Eq.trans (s_iloadn f_190_57 rfl) ?_
      refine Eq.trans (s_iconst f_190_58) ?_
      exact s_call [zR 138, zI v1, zI 2] [zI (zw (s0 * s0))] f_190_59 rfl c_190_62 rfl rfl (Nat.le_of_ble_eq_true rfl) (by show (zkn SH 138 == zown 156) = true; rw [show zkn SH 138 = 10 from kn_138]; rfl)
    refine Eq.trans (s_bipush f_190_73) ?_
    refine Eq.trans (s_bipush f_190_75) ?_
    refine Eq.trans (s_aloadn f_190_77 rfl) ?_
    refine Eq.trans (s_iloadn f_190_78 rfl) ?_
    exact s_call [zR 138, zI v1] [zI 10, zI 100] f_190_79 rfl c_190_161 rfl rfl (Nat.le_of_ble_eq_true rfl) (by show (zkn SH 138 == zown 189) = true; rw [show zkn SH 138 = 10 from kn_138]; rfl)
  · refine Eq.trans (s_sipush f_190_11) ?_
    exact s_iret f_190_14 t_190
theorem q_190_62 {d : Nat} (v1 v2 s0 s1 : Int) (M : ZM) : Q d 190 62 [zR 138, zI v1, zI v2] [zI s1, zI s0] M = Cb (E d 156 [zR 138, zI v1, zI 3] M) (fun v h => zrun (zevl d) 190 68 [zR 138, zI v1, zI v2] (v.toList ++ [zI s1, zI s0]) h) := by
  refine Eq.trans (s_aloadn f_190_62 rfl) ?_
  refine Eq.trans (s_iloadn f_190_63 rfl) ?_
  refine Eq.trans (s_iconst f_190_64) ?_
  exact s_call [zR 138, zI v1, zI 3] [zI s1, zI s0] f_190_65 rfl c_190_62 rfl rfl (Nat.le_of_ble_eq_true rfl) (by show (zkn SH 138 == zown 156) = true; rw [show zkn SH 138 = 10 from kn_138]; rfl)
theorem q_190_68 {d : Nat} (v1 v2 s0 s1 s2 : Int) (M : ZM) : Q d 190 68 [zR 138, zI v1, zI v2] [zI s2, zI s1, zI s0] M = Rt (some (zI (zw (s0 + (zw (((zw (s1 * s2))).tdiv 4)))))) M := by
  refine Eq.trans (s_imul f_190_68) ?_
  refine Eq.trans (s_iconst f_190_69) ?_
  refine Eq.trans (s_idiv f_190_70) (Eq.trans (if_pos (by decide)) ?_)
  refine Eq.trans (s_iadd f_190_71) ?_
  exact s_iret f_190_72 t_190
theorem q_190_82 {d : Nat} (v1 v2 s0 s1 s2 : Int) (M : ZM) : Q d 190 82 [zR 138, zI v1, zI v2] [zI s2, zI s1, zI s0] M = Rt (some (zI (zw ((zw (s0 - (zw (s1 * s2)))) + v2)))) M := by
  refine Eq.trans (s_imul f_190_82) ?_
  refine Eq.trans (s_isub f_190_83) ?_
  refine Eq.trans (s_iloadn f_190_84 rfl) ?_
  refine Eq.trans (s_iadd f_190_85) ?_
  exact s_iret f_190_86 t_190
theorem en_190 {d : Nat} (v1 : Int) (M : ZM) : E (d + 1) 190 [zR 138, zI v1] M = Q d 190 0 [zR 138, zI v1, zU] [] M := e_in (Nat.le_of_ble_eq_true rfl)
-- DungeonBuilderModel.canGo(III)Z
theorem q_191_0 {d : Nat} (v1 v2 v3 : Int) (M : ZM) : Q d 191 0 [zR 138, zI v1, zI v2, zI v3, zU, zU, zU, zU, zU, zU] [] M = Q d 191 6 [zR 138, zI v1, zI v2, zI v3, zI 0, zI 0, zU, zU, zU, zU] [] M := by
  refine Eq.trans (s_iconst f_191_0) ?_
  refine Eq.trans (s_istore f_191_1 rfl) ?_
  refine Eq.trans (s_iconst f_191_3) ?_
  refine Eq.trans (s_istore f_191_4 rfl) ?_
  rfl
theorem q_191_6 {d : Nat} (v1 v2 v3 v4 v5 : Int) (z6 z7 z8 z9 : ZV) (M : ZM) : Q d 191 6 [zR 138, zI v1, zI v2, zI v3, zI v4, zI v5, z6, z7, z8, z9] [] M = if (M 139 121) ≤ v5 then (if v4 = 0 ∨ v4 = 1 then Rt (some (zI v4)) M else none) else (Cb (E d 157 [zR 138, zI v5, zI 0] M) (fun v h => zrun (zevl d) 191 25 [zR 138, zI v1, zI v2, zI v3, zI v4, zI v5, z6, z7, z8, z9] (v.toList ++ []) h)) := by
  refine Eq.trans (s_iload f_191_6 rfl) ?_
  refine Eq.trans (s_aloadn f_191_8 rfl) ?_
  refine Eq.trans (s_getR f_191_9 g_191_7 (by decide) kn_138 rf_138_0) ?_
  refine Eq.trans (s_bipush f_191_12) ?_
  refine Eq.trans (s_iald f_191_14 kn_139 ln_139) (Eq.trans (if_pos (by decide)) ?_)
  refine Eq.trans (s_icmp (P := (M 139 121) ≤ v5) 138 f_191_15 (by decide) rfl) (ite_cg (fun h1 => ?_) (fun h1 => ?_))
  · refine Eq.trans (s_iload f_191_138 rfl) ?_
    exact s_zretg f_191_140 t_191
  · refine Eq.trans (s_aloadn f_191_18 rfl) ?_
    refine Eq.trans (s_iload f_191_19 rfl) ?_
    refine Eq.trans (s_iconst f_191_21) ?_
    exact s_call [zR 138, zI v5, zI 0] [] f_191_22 rfl c_191_85 rfl rfl (Nat.le_of_ble_eq_true rfl) (by show (zkn SH 138 == zown 157) = true; rw [show zkn SH 138 = 10 from kn_138]; rfl)
theorem q_191_25 {d : Nat} (v1 v2 v3 v4 v5 s0 : Int) (z6 z7 z8 z9 : ZV) (M : ZM) : Q d 191 25 [zR 138, zI v1, zI v2, zI v3, zI v4, zI v5, z6, z7, z8, z9] [zI s0] M = Cb (E d 157 [zR 138, zI v5, zI 1] M) (fun v h => zrun (zevl d) 191 34 [zR 138, zI v1, zI v2, zI v3, zI v4, zI v5, zI s0, z7, z8, z9] (v.toList ++ []) h) := by
  refine Eq.trans (s_istore f_191_25 rfl) ?_
  refine Eq.trans (s_aloadn f_191_27 rfl) ?_
  refine Eq.trans (s_iload f_191_28 rfl) ?_
  refine Eq.trans (s_iconst f_191_30) ?_
  exact s_call [zR 138, zI v5, zI 1] [] f_191_31 rfl c_191_85 rfl rfl (Nat.le_of_ble_eq_true rfl) (by show (zkn SH 138 == zown 157) = true; rw [show zkn SH 138 = 10 from kn_138]; rfl)
theorem q_191_34 {d : Nat} (v1 v2 v3 v4 v5 v6 s0 : Int) (z7 z8 z9 : ZV) (M : ZM) : Q d 191 34 [zR 138, zI v1, zI v2, zI v3, zI v4, zI v5, zI v6, z7, z8, z9] [zI s0] M = Cb (E d 157 [zR 138, zI v5, zI 2] M) (fun v h => zrun (zevl d) 191 43 [zR 138, zI v1, zI v2, zI v3, zI v4, zI v5, zI v6, zI s0, z8, z9] (v.toList ++ []) h) := by
  refine Eq.trans (s_istore f_191_34 rfl) ?_
  refine Eq.trans (s_aloadn f_191_36 rfl) ?_
  refine Eq.trans (s_iload f_191_37 rfl) ?_
  refine Eq.trans (s_iconst f_191_39) ?_
  exact s_call [zR 138, zI v5, zI 2] [] f_191_40 rfl c_191_85 rfl rfl (Nat.le_of_ble_eq_true rfl) (by show (zkn SH 138 == zown 157) = true; rw [show zkn SH 138 = 10 from kn_138]; rfl)
theorem q_191_43 {d : Nat} (v1 v2 v3 v4 v5 v6 v7 s0 : Int) (z8 z9 : ZV) (M : ZM) : Q d 191 43 [zR 138, zI v1, zI v2, zI v3, zI v4, zI v5, zI v6, zI v7, z8, z9] [zI s0] M = if v6 ≠ v1 then (Q d 191 61 [zR 138, zI v1, zI v2, zI v3, zI v4, zI v5, zI v6, zI v7, zI s0, z9] [] M) else (if 0 ≤ v7 ∧ v7 < 12 then if (M 147 v7) ≠ 0 then (Q d 191 77 [zR 138, zI v1, zI v2, zI v3, zI v4, zI v5, zI v6, zI v7, zI s0, z9] [] M) else (Q d 191 61 [zR 138, zI v1, zI v2, zI v3, zI v4, zI v5, zI v6, zI v7, zI s0, z9] [] M) else none) := by
  refine Eq.trans (s_istore f_191_43 rfl) ?_
  refine Eq.trans (s_iload f_191_45 rfl) ?_
  refine Eq.trans (s_iloadn f_191_47 rfl) ?_
  refine Eq.trans (s_icmp (P := v6 ≠ v1) 61 f_191_48 (by decide) rfl) (ite_cg (fun h1 => ?_) (fun h1 => ?_))
  · rfl
  · refine Eq.trans (s_aloadn f_191_51 rfl) ?_
    refine Eq.trans (s_getR f_191_52 g_191_34 (by decide) kn_138 rf_138_14) ?_
    refine Eq.trans (s_iload f_191_55 rfl) ?_
    refine Eq.trans (s_bald f_191_57 kn_147 ln_147) (gd_cg fun h2 => ?_)
    refine Eq.trans (s_if (P := (M 147 v7) ≠ 0) 77 f_191_58 (by decide) rfl) (ite_cg (fun h3 => ?_) (fun h3 => ?_))
    · rfl
    · rfl
theorem q_191_61 {d : Nat} (v1 v2 v3 v4 v5 v6 v7 v8 : Int) (z9 : ZV) (M : ZM) : Q d 191 61 [zR 138, zI v1, zI v2, zI v3, zI v4, zI v5, zI v6, zI v7, zI v8, z9] [] M = if v7 ≠ v1 then (Q d 191 81 [zR 138, zI v1, zI v2, zI v3, zI v4, zI v5, zI v6, zI v7, zI v8, z9] [] M) else (if 0 ≤ v6 ∧ v6 < 12 then if (M 147 v6) = 0 then (Q d 191 81 [zR 138, zI v1, zI v2, zI v3, zI v4, zI v5, zI v6, zI v7, zI v8, z9] [] M) else (Q d 191 77 [zR 138, zI v1, zI v2, zI v3, zI v4, zI v5, zI v6, zI v7, zI v8, z9] [] M) else none) := by
  refine Eq.trans (s_iload f_191_61 rfl) ?_
  refine Eq.trans (s_iloadn f_191_63 rfl) ?_
  refine Eq.trans (s_icmp (P := v7 ≠ v1) 81 f_191_64 (by decide) rfl) (ite_cg (fun h1 => ?_) (fun h1 => ?_))
  · rfl
  · refine Eq.trans (s_aloadn f_191_67 rfl) ?_
    refine Eq.trans (s_getR f_191_68 g_191_34 (by decide) kn_138 rf_138_14) ?_
    refine Eq.trans (s_iload f_191_71 rfl) ?_
    refine Eq.trans (s_bald f_191_73 kn_147 ln_147) (gd_cg fun h2 => ?_)
    refine Eq.trans (s_if (P := (M 147 v6) = 0) 81 f_191_74 (by decide) rfl) (ite_cg (fun h3 => ?_) (fun h3 => ?_))
    · rfl
    · rfl
theorem q_191_77 {d : Nat} (v1 v2 v3 v4 v5 v6 v7 v8 : Int) (z9 : ZV) (M : ZM) : Q d 191 77 [zR 138, zI v1, zI v2, zI v3, zI v4, zI v5, zI v6, zI v7, zI v8, z9] [] M = if v4 ≠ 0 then (Q d 191 6 [zR 138, zI v1, zI v2, zI v3, zI 1, zI (zw (v5 + 1)), zI v6, zI v7, zI v8, zI 1] [] M) else (if v5 = v2 then (Q d 191 6 [zR 138, zI v1, zI v2, zI v3, zI 0, zI (zw (v5 + 1)), zI v6, zI v7, zI v8, zI 1] [] M) else (if v8 = (-1) then (Q d 191 6 [zR 138, zI v1, zI v2, zI v3, zI 1, zI (zw (v5 + 1)), zI v6, zI v7, zI v8, zI 1] [] M) else (if v8 = v3 then (Q d 191 6 [zR 138, zI v1, zI v2, zI v3, zI 1, zI (zw (v5 + 1)), zI v6, zI v7, zI v8, zI 1] [] M) else (if (zand (zshr (M 138 15) v8) 1) ≠ 1 then (Q d 191 6 [zR 138, zI v1, zI v2, zI v3, zI 0, zI (zw (v5 + 1)), zI v6, zI v7, zI v8, zI 1] [] M) else (Q d 191 6 [zR 138, zI v1, zI v2, zI v3, zI 1, zI (zw (v5 + 1)), zI v6, zI v7, zI v8, zI 1] [] M))))) := by
  refine Eq.trans (s_iconst f_191_77) ?_
  refine Eq.trans (s_goto 82 f_191_78 (by decide)) ?_
  refine Eq.trans (s_istore f_191_82 rfl) ?_
  refine Eq.trans (s_iload f_191_84 rfl) ?_
  refine Eq.trans (s_if (P := v4 ≠ 0) 125 f_191_86 (by decide) rfl) (ite_cg (fun h1 => ?_) (fun h1 => ?_))
  · refine Eq.trans (s_iconst f_191_125) ?_
    refine Eq.trans (s_goto 130 f_191_126 (by decide)) ?_
    refine Eq.trans (s_istore f_191_130 rfl) ?_
    refine Eq.trans (s_iinc f_191_132 rfl rfl) ?_
    refine Eq.trans (s_goto 6 f_191_135 (by decide)) ?_
    rfl
  · refine Eq.trans (s_iload f_191_89 rfl) ?_
    refine Eq.trans (s_if (P := 1 = 0) 129 f_191_91 (by decide) rfl) (Eq.trans (if_neg (by decide)) ?_)
    refine Eq.trans (s_iload f_191_94 rfl) ?_
    refine Eq.trans (s_iloadn f_191_96 rfl) ?_
    refine Eq.trans (s_icmp (P := v5 = v2) 129 f_191_97 (by decide) rfl) (ite_cg (fun h2 => ?_) (fun h2 => ?_))
    · refine Eq.trans (s_iconst f_191_129) ?_
      refine Eq.trans (s_istore f_191_130 rfl) ?_
      refine Eq.trans (s_iinc f_191_132 rfl rfl) ?_
      refine Eq.trans (s_goto 6 f_191_135 (by decide)) ?_
      rfl
    · refine Eq.trans (s_iload f_191_100 rfl) ?_
      refine Eq.trans (s_iconst f_191_102) ?_
      refine Eq.trans (s_icmp (P := v8 = (-1)) 125 f_191_103 (by decide) rfl) (ite_cg (fun h3 => ?_) (fun h3 => ?_))
      · refine Eq.trans (s_iconst f_191_125) ?_
        refine Eq.trans (s_goto 130 f_191_126 (by decide)) ?_
        refine Eq.trans (s_istore f_191_130 rfl) ?_
        refine Eq.trans (s_iinc f_191_132 rfl rfl) ?_
        refine Eq.trans (s_goto 6 f_191_135 (by decide)) ?_
        rfl
      · refine Eq.trans (s_iload f_191_106 rfl) ?_
        refine Eq.trans (s_iloadn f_191_108 rfl) ?_
        refine Eq.trans (s_icmp (P := v8 = v3) 125 f_191_109 (by decide) rfl) (ite_cg (fun h4 => ?_) (fun h4 => ?_))
        · refine Eq.trans (s_iconst f_191_125) ?_
          refine Eq.trans (s_goto 130 f_191_126 (by decide)) ?_
          refine Eq.trans (s_istore f_191_130 rfl) ?_
          refine Eq.trans (s_iinc f_191_132 rfl rfl) ?_
          refine Eq.trans (s_goto 6 f_191_135 (by decide)) ?_
          rfl
        · refine Eq.trans (s_aloadn f_191_112 rfl) ?_
          refine Eq.trans (s_getI f_191_113 g_191_164 (by decide) kn_138) ?_
          refine Eq.trans (s_iload f_191_116 rfl) ?_
          refine Eq.trans (s_ishr f_191_118) ?_
          refine Eq.trans (s_iconst f_191_119) ?_
          refine Eq.trans (s_iand f_191_120) ?_
          refine Eq.trans (s_iconst f_191_121) ?_
          refine Eq.trans (s_icmp (P := (zand (zshr (M 138 15) v8) 1) ≠ 1) 129 f_191_122 (by decide) rfl) (ite_cg (fun h5 => ?_) (fun h5 => ?_))
          · refine Eq.trans (s_iconst f_191_129) ?_
            refine Eq.trans (s_istore f_191_130 rfl) ?_
            refine Eq.trans (s_iinc f_191_132 rfl rfl) ?_
            refine Eq.trans (s_goto 6 f_191_135 (by decide)) ?_
            rfl
          · refine Eq.trans (s_iconst f_191_125) ?_
            refine Eq.trans (s_goto 130 f_191_126 (by decide)) ?_
            refine Eq.trans (s_istore f_191_130 rfl) ?_
            refine Eq.trans (s_iinc f_191_132 rfl rfl) ?_
            refine Eq.trans (s_goto 6 f_191_135 (by decide)) ?_
            rfl
theorem q_191_81 {d : Nat} (v1 v2 v3 v4 v5 v6 v7 v8 : Int) (z9 : ZV) (M : ZM) : Q d 191 81 [zR 138, zI v1, zI v2, zI v3, zI v4, zI v5, zI v6, zI v7, zI v8, z9] [] M = if v4 ≠ 0 then (Q d 191 6 [zR 138, zI v1, zI v2, zI v3, zI 1, zI (zw (v5 + 1)), zI v6, zI v7, zI v8, zI 0] [] M) else (Q d 191 6 [zR 138, zI v1, zI v2, zI v3, zI 0, zI (zw (v5 + 1)), zI v6, zI v7, zI v8, zI 0] [] M) := by
  refine Eq.trans (s_iconst f_191_81) ?_
  refine Eq.trans (s_istore f_191_82 rfl) ?_
  refine Eq.trans (s_iload f_191_84 rfl) ?_
  refine Eq.trans (s_if (P := v4 ≠ 0) 125 f_191_86 (by decide) rfl) (ite_cg (fun h1 => ?_) (fun h1 => ?_))
  · refine Eq.trans (s_iconst f_191_125) ?_
    refine Eq.trans (s_goto 130 f_191_126 (by decide)) ?_
    refine Eq.trans (s_istore f_191_130 rfl) ?_
    refine Eq.trans (s_iinc f_191_132 rfl rfl) ?_
    refine Eq.trans (s_goto 6 f_191_135 (by decide)) ?_
    rfl
  · refine Eq.trans (s_iload f_191_89 rfl) ?_
    refine Eq.trans (s_if (P := 0 = 0) 129 f_191_91 (by decide) rfl) (Eq.trans (if_pos (by decide)) ?_)
    refine Eq.trans (s_iconst f_191_129) ?_
    refine Eq.trans (s_istore f_191_130 rfl) ?_
    refine Eq.trans (s_iinc f_191_132 rfl rfl) ?_
    refine Eq.trans (s_goto 6 f_191_135 (by decide)) ?_
    rfl
theorem en_191 {d : Nat} (v1 v2 v3 : Int) (M : ZM) : E (d + 1) 191 [zR 138, zI v1, zI v2, zI v3] M = Q d 191 0 [zR 138, zI v1, zI v2, zI v3, zU, zU, zU, zU, zU, zU] [] M := e_in (Nat.le_of_ble_eq_true rfl)
-- DungeonBuilderModel.goesTo(II)V
theorem q_192_0 {d : Nat} (v1 v2 : Int) (M : ZM) : Q d 192 0 [zR 138, zI v1, zI v2, zU] [] M = if 0 ≤ v1 ∧ v1 < 12 then if 0 ≤ ((zwr M 147 v1 1) 138 13) ∧ ((zwr M 147 v1 1) 138 13) < 12 then Cb (E d 156 [zR 138, zI v1, zI 4] (zwr (zwr (zwr M 147 v1 1) 146 ((zwr M 147 v1 1) 138 13) v1) 138 13 (zw (((zwr (zwr M 147 v1 1) 146 ((zwr M 147 v1 1) 138 13) v1) 138 13) + 1)))) (fun v h => zrun (zevl d) 192 33 [zR 138, zI v1, zI v2, zU] (v.toList ++ []) h) else none else none := by
  refine Eq.trans (s_aloadn f_192_0 rfl) ?_
  refine Eq.trans (s_getR f_192_1 g_192_34 (by decide) kn_138 rf_138_14) ?_
  refine Eq.trans (s_iloadn f_192_4 rfl) ?_
  refine Eq.trans (s_iconst f_192_5) ?_
  refine Eq.trans (s_bastc f_192_6 kn_147 ln_147 (by decide)) (gd_cg fun h1 => ?_)
  refine Eq.trans (s_aloadn f_192_7 rfl) ?_
  refine Eq.trans (s_getR f_192_8 g_192_31 (by decide) kn_138 rf_138_12) ?_
  refine Eq.trans (s_aloadn f_192_11 rfl) ?_
  refine Eq.trans (s_getI f_192_12 g_192_167 (by decide) kn_138) ?_
  refine Eq.trans (s_iloadn f_192_15 rfl) ?_
  refine Eq.trans (s_iast f_192_16 kn_146 ln_146) (gd_cg fun h2 => ?_)
  refine Eq.trans (s_aloadn f_192_17 rfl) ?_
  refine Eq.trans (s_dup f_192_18 rfl) ?_
  refine Eq.trans (s_getI f_192_19 g_192_167 (by decide) kn_138) ?_
  refine Eq.trans (s_iconst f_192_22) ?_
  refine Eq.trans (s_iadd f_192_23) ?_
  refine Eq.trans (s_putI f_192_24 g_192_167 (by decide) kn_138) ?_
  refine Eq.trans (s_aloadn f_192_27 rfl) ?_
  refine Eq.trans (s_iloadn f_192_28 rfl) ?_
  refine Eq.trans (s_iconst f_192_29) ?_
  exact s_call [zR 138, zI v1, zI 4] [] f_192_30 rfl c_192_62 rfl rfl (Nat.le_of_ble_eq_true rfl) (by show (zkn SH 138 == zown 156) = true; rw [show zkn SH 138 = 10 from kn_138]; rfl)
theorem q_192_33 {d : Nat} (v1 v2 s0 : Int) (M : ZM) : Q d 192 33 [zR 138, zI v1, zI v2, zU] [zI s0] M = if s0 = (-1) then (Rt none (zwr M 138 15 (zor (M 138 15) 0))) else (if s0 = v2 then (Rt none (zwr M 138 15 (zor (M 138 15) 0))) else (Rt none (zwr M 138 15 (zor (M 138 15) (zshl 1 s0))))) := by
  refine Eq.trans (s_istoren f_192_33 rfl) ?_
  refine Eq.trans (s_aloadn f_192_34 rfl) ?_
  refine Eq.trans (s_dup f_192_35 rfl) ?_
  refine Eq.trans (s_getI f_192_36 g_192_164 (by decide) kn_138) ?_
  refine Eq.trans (s_iloadn f_192_39 rfl) ?_
  refine Eq.trans (s_iconst f_192_40) ?_
  refine Eq.trans (s_icmp (P := s0 = (-1)) 55 f_192_41 (by decide) rfl) (ite_cg (fun h1 => ?_) (fun h1 => ?_))
  · refine Eq.trans (s_iconst f_192_55) ?_
    refine Eq.trans (s_ior f_192_56) ?_
    refine Eq.trans (s_putI f_192_57 g_192_164 (by decide) kn_138) ?_
    exact s_vret f_192_60 t_192
  · refine Eq.trans (s_iloadn f_192_44 rfl) ?_
    refine Eq.trans (s_iloadn f_192_45 rfl) ?_
    refine Eq.trans (s_icmp (P := s0 = v2) 55 f_192_46 (by decide) rfl) (ite_cg (fun h2 => ?_) (fun h2 => ?_))
    · refine Eq.trans (s_iconst f_192_55) ?_
      refine Eq.trans (s_ior f_192_56) ?_
      refine Eq.trans (s_putI f_192_57 g_192_164 (by decide) kn_138) ?_
      exact s_vret f_192_60 t_192
    · refine Eq.trans (s_iconst f_192_49) ?_
      refine Eq.trans (s_iloadn f_192_50 rfl) ?_
      refine Eq.trans (s_ishl f_192_51) ?_
      refine Eq.trans (s_goto 56 f_192_52 (by decide)) ?_
      refine Eq.trans (s_ior f_192_56) ?_
      refine Eq.trans (s_putI f_192_57 g_192_164 (by decide) kn_138) ?_
      exact s_vret f_192_60 t_192
theorem en_192 {d : Nat} (v1 v2 : Int) (M : ZM) : E (d + 1) 192 [zR 138, zI v1, zI v2] M = Q d 192 0 [zR 138, zI v1, zI v2, zU] [] M := e_in (Nat.le_of_ble_eq_true rfl)
-- DungeonBuilderModel.tellVisit(III)V
theorem q_193_0 {d : Nat} (v1 v2 v3 : Int) (M : ZM) : Q d 193 0 [zR 138, zI v1, zI v2, zI v3, zU, zU] [] M = Q d 193 13 [zR 138, zI v1, zI v2, zI v3, zI 0, zU] [] (zwr (zwr M 138 13 0) 138 15 0) := by
  refine Eq.trans (s_aloadn f_193_0 rfl) ?_
  refine Eq.trans (s_iconst f_193_1) ?_
  refine Eq.trans (s_putI f_193_2 g_193_167 (by decide) kn_138) ?_
  refine Eq.trans (s_aloadn f_193_5 rfl) ?_
  refine Eq.trans (s_iconst f_193_6) ?_
  refine Eq.trans (s_putI f_193_7 g_193_164 (by decide) kn_138) ?_
  refine Eq.trans (s_iconst f_193_10) ?_
  refine Eq.trans (s_istore f_193_11 rfl) ?_
  rfl
theorem q_193_13 {d : Nat} (v1 v2 v3 v4 : Int) (M : ZM) : Q d 193 13 [zR 138, zI v1, zI v2, zI v3, zI v4, zU] [] M = if 12 ≤ v4 then (if (M 139 120) ≤ 0 then (Q d 193 57 [zR 138, zI v1, zI v2, zI v3, zI (-1), zU] [] M) else (Q d 193 57 [zR 138, zI v1, zI v2, zI v3, zI (M 139 122), zU] [] M)) else (if 0 ≤ v4 ∧ v4 < 12 then Q d 193 13 [zR 138, zI v1, zI v2, zI v3, zI (zw (v4 + 1)), zU] [] (zwr M 147 v4 0) else none) := by
  refine Eq.trans (s_iload f_193_13 rfl) ?_
  refine Eq.trans (s_bipush f_193_15) ?_
  refine Eq.trans (s_icmp (P := 12 ≤ v4) 34 f_193_17 (by decide) rfl) (ite_cg (fun h1 => ?_) (fun h1 => ?_))
  · refine Eq.trans (s_aloadn f_193_34 rfl) ?_
    refine Eq.trans (s_getR f_193_35 g_193_7 (by decide) kn_138 rf_138_0) ?_
    refine Eq.trans (s_bipush f_193_38) ?_
    refine Eq.trans (s_iald f_193_40 kn_139 ln_139) (Eq.trans (if_pos (by decide)) ?_)
    refine Eq.trans (s_if (P := (M 139 120) ≤ 0) 54 f_193_41 (by decide) rfl) (ite_cg (fun h2 => ?_) (fun h2 => ?_))
    · refine Eq.trans (s_iconst f_193_54) ?_
      refine Eq.trans (s_istore f_193_55 rfl) ?_
      rfl
    · refine Eq.trans (s_aloadn f_193_44 rfl) ?_
      refine Eq.trans (s_getR f_193_45 g_193_7 (by decide) kn_138 rf_138_0) ?_
      refine Eq.trans (s_bipush f_193_48) ?_
      refine Eq.trans (s_iald f_193_50 kn_139 ln_139) (Eq.trans (if_pos (by decide)) ?_)
      refine Eq.trans (s_goto 55 f_193_51 (by decide)) ?_
      refine Eq.trans (s_istore f_193_55 rfl) ?_
      rfl
  · refine Eq.trans (s_aloadn f_193_20 rfl) ?_
    refine Eq.trans (s_getR f_193_21 g_193_34 (by decide) kn_138 rf_138_14) ?_
    refine Eq.trans (s_iload f_193_24 rfl) ?_
    refine Eq.trans (s_iconst f_193_26) ?_
    refine Eq.trans (s_bastc f_193_27 kn_147 ln_147 (by decide)) (gd_cg fun h3 => ?_)
    refine Eq.trans (s_iinc f_193_28 rfl rfl) ?_
    refine Eq.trans (s_goto 13 f_193_31 (by decide)) ?_
    rfl
theorem q_193_57 {d : Nat} (v1 v2 v3 v4 : Int) (z5 : ZV) (M : ZM) : Q d 193 57 [zR 138, zI v1, zI v2, zI v3, zI v4, z5] [] M = if v4 < 0 then (Rt none M) else (Cb (E d 192 [zR 138, zI v4, zI v2] M) (fun v h => zrun (zevl d) 193 69 [zR 138, zI v1, zI v2, zI v3, zI v4, z5] (v.toList ++ []) h)) := by
  refine Eq.trans (s_iload f_193_57 rfl) ?_
  refine Eq.trans (s_if (P := v4 < 0) 142 f_193_59 (by decide) rfl) (ite_cg (fun h1 => ?_) (fun h1 => ?_))
  · exact s_vret f_193_142 t_193
  · refine Eq.trans (s_aloadn f_193_62 rfl) ?_
    refine Eq.trans (s_iload f_193_63 rfl) ?_
    refine Eq.trans (s_iloadn f_193_65 rfl) ?_
    exact s_call [zR 138, zI v4, zI v2] [] f_193_66 rfl c_193_170 rfl rfl (Nat.le_of_ble_eq_true rfl) (by show (zkn SH 138 == zown 192) = true; rw [show zkn SH 138 = 10 from kn_138]; rfl)
theorem q_193_69 {d : Nat} (v1 v2 v3 v4 : Int) (z5 : ZV) (M : ZM) : Q d 193 69 [zR 138, zI v1, zI v2, zI v3, zI v4, z5] [] M = Q d 193 75 [zR 138, zI v1, zI v2, zI v3, zI (-1), zI 0] [] M := by
  refine Eq.trans (s_iconst f_193_69) ?_
  refine Eq.trans (s_istore f_193_70 rfl) ?_
  refine Eq.trans (s_iconst f_193_72) ?_
  refine Eq.trans (s_istore f_193_73 rfl) ?_
  rfl
theorem q_193_75 {d : Nat} (v1 v2 v3 v4 v5 : Int) (M : ZM) : Q d 193 75 [zR 138, zI v1, zI v2, zI v3, zI v4, zI v5] [] M = if (M 139 120) ≤ v5 then (Q d 193 57 [zR 138, zI v1, zI v2, zI v3, zI v4, zI v5] [] M) else (if 0 ≤ v5 ∧ v5 < 12 then if (M 147 v5) ≠ 0 then (Q d 193 75 [zR 138, zI v1, zI v2, zI v3, zI v4, zI (zw (v5 + 1))] [] M) else (Cb (E d 191 [zR 138, zI v5, zI v1, zI v3] M) (fun v h => zrun (zevl d) 193 105 [zR 138, zI v1, zI v2, zI v3, zI v4, zI v5] (v.toList ++ []) h)) else none) := by
  refine Eq.trans (s_iload f_193_75 rfl) ?_
  refine Eq.trans (s_aloadn f_193_77 rfl) ?_
  refine Eq.trans (s_getR f_193_78 g_193_7 (by decide) kn_138 rf_138_0) ?_
  refine Eq.trans (s_bipush f_193_81) ?_
  refine Eq.trans (s_iald f_193_83 kn_139 ln_139) (Eq.trans (if_pos (by decide)) ?_)
  refine Eq.trans (s_icmp (P := (M 139 120) ≤ v5) 139 f_193_84 (by decide) rfl) (ite_cg (fun h1 => ?_) (fun h1 => ?_))
  · refine Eq.trans (s_goto 57 f_193_139 (by decide)) ?_
    rfl
  · refine Eq.trans (s_aloadn f_193_87 rfl) ?_
    refine Eq.trans (s_getR f_193_88 g_193_34 (by decide) kn_138 rf_138_14) ?_
    refine Eq.trans (s_iload f_193_91 rfl) ?_
    refine Eq.trans (s_bald f_193_93 kn_147 ln_147) (gd_cg fun h2 => ?_)
    refine Eq.trans (s_if (P := (M 147 v5) ≠ 0) 133 f_193_94 (by decide) rfl) (ite_cg (fun h3 => ?_) (fun h3 => ?_))
    · refine Eq.trans (s_iinc f_193_133 rfl rfl) ?_
      refine Eq.trans (s_goto 75 f_193_136 (by decide)) ?_
      rfl
    · refine Eq.trans (s_aloadn f_193_97 rfl) ?_
      refine Eq.trans (s_iload f_193_98 rfl) ?_
      refine Eq.trans (s_iloadn f_193_100 rfl) ?_
      refine Eq.trans (s_iloadn f_193_101 rfl) ?_
      exact s_call [zR 138, zI v5, zI v1, zI v3] [] f_193_102 rfl c_193_173 rfl rfl (Nat.le_of_ble_eq_true rfl) (by show (zkn SH 138 == zown 191) = true; rw [show zkn SH 138 = 10 from kn_138]; rfl)
theorem q_193_105 {d : Nat} (v1 v2 v3 v4 v5 s0 : Int) (M : ZM) : Q d 193 105 [zR 138, zI v1, zI v2, zI v3, zI v4, zI v5] [zI s0] M = if s0 = 0 then (Q d 193 75 [zR 138, zI v1, zI v2, zI v3, zI v4, zI (zw (v5 + 1))] [] M) else (if v4 = (-1) then (Q d 193 75 [zR 138, zI v1, zI v2, zI v3, zI v5, zI (zw (v5 + 1))] [] M) else (Cb (E d 190 [zR 138, zI v5] M) (fun v h => zrun (zevl d) 193 120 [zR 138, zI v1, zI v2, zI v3, zI v4, zI v5] (v.toList ++ []) h))) := by
  refine Eq.trans (s_if (P := s0 = 0) 133 f_193_105 (by decide) rfl) (ite_cg (fun h1 => ?_) (fun h1 => ?_))
  · refine Eq.trans (s_iinc f_193_133 rfl rfl) ?_
    refine Eq.trans (s_goto 75 f_193_136 (by decide)) ?_
    rfl
  · refine Eq.trans (s_iload f_193_108 rfl) ?_
    refine Eq.trans (s_iconst f_193_110) ?_
    refine Eq.trans (s_icmp (P := v4 = (-1)) 129 f_193_111 (by decide) rfl) (ite_cg (fun h2 => ?_) (fun h2 => ?_))
    · refine Eq.trans (s_iload f_193_129 rfl) ?_
      refine Eq.trans (s_istore f_193_131 rfl) ?_
      refine Eq.trans (s_iinc f_193_133 rfl rfl) ?_
      refine Eq.trans (s_goto 75 f_193_136 (by decide)) ?_
      rfl
    · refine Eq.trans (s_aloadn f_193_114 rfl) ?_
      refine Eq.trans (s_iload f_193_115 rfl) ?_
      exact s_call [zR 138, zI v5] [] f_193_117 rfl c_193_176 rfl rfl (Nat.le_of_ble_eq_true rfl) (by show (zkn SH 138 == zown 190) = true; rw [show zkn SH 138 = 10 from kn_138]; rfl)
theorem q_193_120 {d : Nat} (v1 v2 v3 v4 v5 s0 : Int) (M : ZM) : Q d 193 120 [zR 138, zI v1, zI v2, zI v3, zI v4, zI v5] [zI s0] M = Cb (E d 190 [zR 138, zI v4] M) (fun v h => zrun (zevl d) 193 126 [zR 138, zI v1, zI v2, zI v3, zI v4, zI v5] (v.toList ++ [zI s0]) h) := by
  refine Eq.trans (s_aloadn f_193_120 rfl) ?_
  refine Eq.trans (s_iload f_193_121 rfl) ?_
  exact s_call [zR 138, zI v4] [zI s0] f_193_123 rfl c_193_176 rfl rfl (Nat.le_of_ble_eq_true rfl) (by show (zkn SH 138 == zown 190) = true; rw [show zkn SH 138 = 10 from kn_138]; rfl)
theorem q_193_126 {d : Nat} (v1 v2 v3 v4 v5 s0 s1 : Int) (M : ZM) : Q d 193 126 [zR 138, zI v1, zI v2, zI v3, zI v4, zI v5] [zI s1, zI s0] M = if s1 ≤ s0 then (Q d 193 75 [zR 138, zI v1, zI v2, zI v3, zI v4, zI (zw (v5 + 1))] [] M) else (Q d 193 75 [zR 138, zI v1, zI v2, zI v3, zI v5, zI (zw (v5 + 1))] [] M) := by
  refine Eq.trans (s_icmp (P := s1 ≤ s0) 133 f_193_126 (by decide) rfl) (ite_cg (fun h1 => ?_) (fun h1 => ?_))
  · refine Eq.trans (s_iinc f_193_133 rfl rfl) ?_
    refine Eq.trans (s_goto 75 f_193_136 (by decide)) ?_
    rfl
  · refine Eq.trans (s_iload f_193_129 rfl) ?_
    refine Eq.trans (s_istore f_193_131 rfl) ?_
    refine Eq.trans (s_iinc f_193_133 rfl rfl) ?_
    refine Eq.trans (s_goto 75 f_193_136 (by decide)) ?_
    rfl
theorem en_193 {d : Nat} (v1 v2 v3 : Int) (M : ZM) : E (d + 1) 193 [zR 138, zI v1, zI v2, zI v3] M = Q d 193 0 [zR 138, zI v1, zI v2, zI v3, zU, zU] [] M := e_in (Nat.le_of_ble_eq_true rfl)
-- DungeonBuilderModel.tell()V
theorem q_194_0 {d : Nat} (M : ZM) : Q d 194 0 [zR 138] [] M = Cb (E d 193 [zR 138, zI (-1), zI (-1), zI (-1)] M) (fun v h => zrun (zevl d) 194 7 [zR 138] (v.toList ++ []) h) := by
  refine Eq.trans (s_aloadn f_194_0 rfl) ?_
  refine Eq.trans (s_iconst f_194_1) ?_
  refine Eq.trans (s_iconst f_194_2) ?_
  refine Eq.trans (s_iconst f_194_3) ?_
  exact s_call [zR 138, zI (-1), zI (-1), zI (-1)] [] f_194_4 rfl c_194_179 rfl rfl (Nat.le_of_ble_eq_true rfl) (by show (zkn SH 138 == zown 193) = true; rw [show zkn SH 138 = 10 from kn_138]; rfl)
theorem q_194_7 {d : Nat} (M : ZM) : Q d 194 7 [zR 138] [] M = Rt none M := by
  exact s_vret f_194_7 t_194
theorem en_194 {d : Nat} (M : ZM) : E (d + 1) 194 [zR 138] M = Q d 194 0 [zR 138] [] M := e_in (Nat.le_of_ble_eq_true rfl)
-- DungeonBuilderModel.farSide(I)I
theorem q_195_0 {d : Nat} (v1 : Int) (M : ZM) : Q d 195 0 [zR 138, zI v1, zU, zU] [] M = Cb (E d 187 [zR 138, zI (M 139 122), zI (-1)] M) (fun v h => zrun (zevl d) 195 14 [zR 138, zI v1, zI 0, zU] (v.toList ++ []) h) := by
  refine Eq.trans (s_iconst f_195_0) ?_
  refine Eq.trans (s_istoren f_195_1 rfl) ?_
  refine Eq.trans (s_aloadn f_195_2 rfl) ?_
  refine Eq.trans (s_aloadn f_195_3 rfl) ?_
  refine Eq.trans (s_getR f_195_4 g_195_7 (by decide) kn_138 rf_138_0) ?_
  refine Eq.trans (s_bipush f_195_7) ?_
  refine Eq.trans (s_iald f_195_9 kn_139 ln_139) (Eq.trans (if_pos (by decide)) ?_)
  refine Eq.trans (s_iconst f_195_10) ?_
  exact s_call [zR 138, zI (M 139 122), zI (-1)] [] f_195_11 rfl c_195_154 rfl rfl (Nat.le_of_ble_eq_true rfl) (by show (zkn SH 138 == zown 187) = true; rw [show zkn SH 138 = 10 from kn_138]; rfl)
theorem q_195_14 {d : Nat} (v1 v2 : Int) (M : ZM) : Q d 195 14 [zR 138, zI v1, zI v2, zU] [] M = Q d 195 16 [zR 138, zI v1, zI v2, zI 0] [] M := by
  refine Eq.trans (s_iconst f_195_14) ?_
  refine Eq.trans (s_istoren f_195_15 rfl) ?_
  rfl
theorem q_195_16 {d : Nat} (v1 v2 v3 : Int) (M : ZM) : Q d 195 16 [zR 138, zI v1, zI v2, zI v3] [] M = if (M 139 120) ≤ v3 then (Cb (E d 187 [zR 138, zI (M 139 122), zI v1] M) (fun v h => zrun (zevl d) 195 62 [zR 138, zI v1, zI v2, zI v3] (v.toList ++ []) h)) else (if 0 ≤ v3 ∧ v3 < 12 then if (M 145 v3) < 0 then (Q d 195 16 [zR 138, zI v1, zI (zw (v2 + 0)), zI (zw (v3 + 1))] [] M) else (Q d 195 16 [zR 138, zI v1, zI (zw (v2 + 1)), zI (zw (v3 + 1))] [] M) else none) := by
  refine Eq.trans (s_iloadn f_195_16 rfl) ?_
  refine Eq.trans (s_aloadn f_195_17 rfl) ?_
  refine Eq.trans (s_getR f_195_18 g_195_7 (by decide) kn_138 rf_138_0) ?_
  refine Eq.trans (s_bipush f_195_21) ?_
  refine Eq.trans (s_iald f_195_23 kn_139 ln_139) (Eq.trans (if_pos (by decide)) ?_)
  refine Eq.trans (s_icmp (P := (M 139 120) ≤ v3) 50 f_195_24 (by decide) rfl) (ite_cg (fun h1 => ?_) (fun h1 => ?_))
  · refine Eq.trans (s_aloadn f_195_50 rfl) ?_
    refine Eq.trans (s_aloadn f_195_51 rfl) ?_
    refine Eq.trans (s_getR f_195_52 g_195_7 (by decide) kn_138 rf_138_0) ?_
    refine Eq.trans (s_bipush f_195_55) ?_
    refine Eq.trans (s_iald f_195_57 kn_139 ln_139) (Eq.trans (if_pos (by decide)) ?_)
    refine Eq.trans (s_iloadn f_195_58 rfl) ?_
    exact s_call [zR 138, zI (M 139 122), zI v1] [] f_195_59 rfl c_195_154 rfl rfl (Nat.le_of_ble_eq_true rfl) (by show (zkn SH 138 == zown 187) = true; rw [show zkn SH 138 = 10 from kn_138]; rfl)
  · refine Eq.trans (s_iloadn f_195_27 rfl) ?_
    refine Eq.trans (s_aloadn f_195_28 rfl) ?_
    refine Eq.trans (s_getR f_195_29 g_195_28 (by decide) kn_138 rf_138_11) ?_
    refine Eq.trans (s_iloadn f_195_32 rfl) ?_
    refine Eq.trans (s_iald f_195_33 kn_145 ln_145) (gd_cg fun h2 => ?_)
    refine Eq.trans (s_if (P := (M 145 v3) < 0) 41 f_195_34 (by decide) rfl) (ite_cg (fun h3 => ?_) (fun h3 => ?_))
    · refine Eq.trans (s_iconst f_195_41) ?_
      refine Eq.trans (s_iadd f_195_42) ?_
      refine Eq.trans (s_istoren f_195_43 rfl) ?_
      refine Eq.trans (s_iinc f_195_44 rfl rfl) ?_
      refine Eq.trans (s_goto 16 f_195_47 (by decide)) ?_
      rfl
    · refine Eq.trans (s_iconst f_195_37) ?_
      refine Eq.trans (s_goto 42 f_195_38 (by decide)) ?_
      refine Eq.trans (s_iadd f_195_42) ?_
      refine Eq.trans (s_istoren f_195_43 rfl) ?_
      refine Eq.trans (s_iinc f_195_44 rfl rfl) ?_
      refine Eq.trans (s_goto 16 f_195_47 (by decide)) ?_
      rfl
theorem q_195_62 {d : Nat} (v1 v2 v3 : Int) (M : ZM) : Q d 195 62 [zR 138, zI v1, zI v2, zI v3] [] M = Q d 195 64 [zR 138, zI v1, zI v2, zI 0] [] M := by
  refine Eq.trans (s_iconst f_195_62) ?_
  refine Eq.trans (s_istoren f_195_63 rfl) ?_
  rfl
theorem q_195_64 {d : Nat} (v1 v2 v3 : Int) (M : ZM) : Q d 195 64 [zR 138, zI v1, zI v2, zI v3] [] M = if (M 139 120) ≤ v3 then (Rt (some (zI v2)) M) else (if 0 ≤ v3 ∧ v3 < 12 then if (M 145 v3) < 0 then (Q d 195 64 [zR 138, zI v1, zI (zw (v2 - 0)), zI (zw (v3 + 1))] [] M) else (Q d 195 64 [zR 138, zI v1, zI (zw (v2 - 1)), zI (zw (v3 + 1))] [] M) else none) := by
  refine Eq.trans (s_iloadn f_195_64 rfl) ?_
  refine Eq.trans (s_aloadn f_195_65 rfl) ?_
  refine Eq.trans (s_getR f_195_66 g_195_7 (by decide) kn_138 rf_138_0) ?_
  refine Eq.trans (s_bipush f_195_69) ?_
  refine Eq.trans (s_iald f_195_71 kn_139 ln_139) (Eq.trans (if_pos (by decide)) ?_)
  refine Eq.trans (s_icmp (P := (M 139 120) ≤ v3) 98 f_195_72 (by decide) rfl) (ite_cg (fun h1 => ?_) (fun h1 => ?_))
  · refine Eq.trans (s_iloadn f_195_98 rfl) ?_
    exact s_iret f_195_99 t_195
  · refine Eq.trans (s_iloadn f_195_75 rfl) ?_
    refine Eq.trans (s_aloadn f_195_76 rfl) ?_
    refine Eq.trans (s_getR f_195_77 g_195_28 (by decide) kn_138 rf_138_11) ?_
    refine Eq.trans (s_iloadn f_195_80 rfl) ?_
    refine Eq.trans (s_iald f_195_81 kn_145 ln_145) (gd_cg fun h2 => ?_)
    refine Eq.trans (s_if (P := (M 145 v3) < 0) 89 f_195_82 (by decide) rfl) (ite_cg (fun h3 => ?_) (fun h3 => ?_))
    · refine Eq.trans (s_iconst f_195_89) ?_
      refine Eq.trans (s_isub f_195_90) ?_
      refine Eq.trans (s_istoren f_195_91 rfl) ?_
      refine Eq.trans (s_iinc f_195_92 rfl rfl) ?_
      refine Eq.trans (s_goto 64 f_195_95 (by decide)) ?_
      rfl
    · refine Eq.trans (s_iconst f_195_85) ?_
      refine Eq.trans (s_goto 90 f_195_86 (by decide)) ?_
      refine Eq.trans (s_isub f_195_90) ?_
      refine Eq.trans (s_istoren f_195_91 rfl) ?_
      refine Eq.trans (s_iinc f_195_92 rfl rfl) ?_
      refine Eq.trans (s_goto 64 f_195_95 (by decide)) ?_
      rfl
theorem en_195 {d : Nat} (v1 : Int) (M : ZM) : E (d + 1) 195 [zR 138, zI v1] M = Q d 195 0 [zR 138, zI v1, zU, zU] [] M := e_in (Nat.le_of_ble_eq_true rfl)
-- DungeonBuilderModel.colorsUsed()I
theorem q_196_0 {d : Nat} (M : ZM) : Q d 196 0 [zR 138, zU, zU] [] M = Q d 196 4 [zR 138, zI 0, zI 0] [] M := by
  refine Eq.trans (s_iconst f_196_0) ?_
  refine Eq.trans (s_istoren f_196_1 rfl) ?_
  refine Eq.trans (s_iconst f_196_2) ?_
  refine Eq.trans (s_istoren f_196_3 rfl) ?_
  rfl
theorem q_196_4 {d : Nat} (v1 v2 : Int) (M : ZM) : Q d 196 4 [zR 138, zI v1, zI v2] [] M = if (M 139 121) ≤ v2 then (Q d 196 47 [zR 138, zI v1, zI 0] [] M) else (Cb (E d 157 [zR 138, zI v2, zI 2] M) (fun v h => zrun (zevl d) 196 22 [zR 138, zI v1, zI v2] (v.toList ++ [zI v1]) h)) := by
  refine Eq.trans (s_iloadn f_196_4 rfl) ?_
  refine Eq.trans (s_aloadn f_196_5 rfl) ?_
  refine Eq.trans (s_getR f_196_6 g_196_7 (by decide) kn_138 rf_138_0) ?_
  refine Eq.trans (s_bipush f_196_9) ?_
  refine Eq.trans (s_iald f_196_11 kn_139 ln_139) (Eq.trans (if_pos (by decide)) ?_)
  refine Eq.trans (s_icmp (P := (M 139 121) ≤ v2) 45 f_196_12 (by decide) rfl) (ite_cg (fun h1 => ?_) (fun h1 => ?_))
  · refine Eq.trans (s_iconst f_196_45) ?_
    refine Eq.trans (s_istoren f_196_46 rfl) ?_
    rfl
  · refine Eq.trans (s_iloadn f_196_15 rfl) ?_
    refine Eq.trans (s_aloadn f_196_16 rfl) ?_
    refine Eq.trans (s_iloadn f_196_17 rfl) ?_
    refine Eq.trans (s_iconst f_196_18) ?_
    exact s_call [zR 138, zI v2, zI 2] [zI v1] f_196_19 rfl c_196_85 rfl rfl (Nat.le_of_ble_eq_true rfl) (by show (zkn SH 138 == zown 157) = true; rw [show zkn SH 138 = 10 from kn_138]; rfl)
theorem q_196_22 {d : Nat} (v1 v2 s0 s1 : Int) (M : ZM) : Q d 196 22 [zR 138, zI v1, zI v2] [zI s1, zI s0] M = if s1 < 0 then (Q d 196 4 [zR 138, zI (zor s0 0), zI (zw (v2 + 1))] [] M) else (Cb (E d 157 [zR 138, zI v2, zI 2] M) (fun v h => zrun (zevl d) 196 32 [zR 138, zI v1, zI v2] (v.toList ++ [zI 1, zI s0]) h)) := by
  refine Eq.trans (s_if (P := s1 < 0) 36 f_196_22 (by decide) rfl) (ite_cg (fun h1 => ?_) (fun h1 => ?_))
  · refine Eq.trans (s_iconst f_196_36) ?_
    refine Eq.trans (s_ior f_196_37) ?_
    refine Eq.trans (s_istoren f_196_38 rfl) ?_
    refine Eq.trans (s_iinc f_196_39 rfl rfl) ?_
    refine Eq.trans (s_goto 4 f_196_42 (by decide)) ?_
    rfl
  · refine Eq.trans (s_iconst f_196_25) ?_
    refine Eq.trans (s_aloadn f_196_26 rfl) ?_
    refine Eq.trans (s_iloadn f_196_27 rfl) ?_
    refine Eq.trans (s_iconst f_196_28) ?_
    exact s_call [zR 138, zI v2, zI 2] [zI 1, zI s0] f_196_29 rfl c_196_85 rfl rfl (Nat.le_of_ble_eq_true rfl) (by show (zkn SH 138 == zown 157) = true; rw [show zkn SH 138 = 10 from kn_138]; rfl)
theorem q_196_32 {d : Nat} (v1 v2 s0 s1 s2 : Int) (M : ZM) : Q d 196 32 [zR 138, zI v1, zI v2] [zI s2, zI s1, zI s0] M = Q d 196 4 [zR 138, zI (zor s0 (zshl s1 s2)), zI (zw (v2 + 1))] [] M := by
  refine Eq.trans (s_ishl f_196_32) ?_
  refine Eq.trans (s_goto 37 f_196_33 (by decide)) ?_
  refine Eq.trans (s_ior f_196_37) ?_
  refine Eq.trans (s_istoren f_196_38 rfl) ?_
  refine Eq.trans (s_iinc f_196_39 rfl rfl) ?_
  refine Eq.trans (s_goto 4 f_196_42 (by decide)) ?_
  rfl
theorem q_196_47 {d : Nat} (v1 v2 : Int) (M : ZM) : Q d 196 47 [zR 138, zI v1, zI v2] [] M = if (M 139 120) ≤ v2 then (Rt (some (zI v1)) M) else (Cb (E d 156 [zR 138, zI v2, zI 4] M) (fun v h => zrun (zevl d) 196 65 [zR 138, zI v1, zI v2] (v.toList ++ [zI v1]) h)) := by
  refine Eq.trans (s_iloadn f_196_47 rfl) ?_
  refine Eq.trans (s_aloadn f_196_48 rfl) ?_
  refine Eq.trans (s_getR f_196_49 g_196_7 (by decide) kn_138 rf_138_0) ?_
  refine Eq.trans (s_bipush f_196_52) ?_
  refine Eq.trans (s_iald f_196_54 kn_139 ln_139) (Eq.trans (if_pos (by decide)) ?_)
  refine Eq.trans (s_icmp (P := (M 139 120) ≤ v2) 88 f_196_55 (by decide) rfl) (ite_cg (fun h1 => ?_) (fun h1 => ?_))
  · refine Eq.trans (s_iloadn f_196_88 rfl) ?_
    exact s_iret f_196_89 t_196
  · refine Eq.trans (s_iloadn f_196_58 rfl) ?_
    refine Eq.trans (s_aloadn f_196_59 rfl) ?_
    refine Eq.trans (s_iloadn f_196_60 rfl) ?_
    refine Eq.trans (s_iconst f_196_61) ?_
    exact s_call [zR 138, zI v2, zI 4] [zI v1] f_196_62 rfl c_196_62 rfl rfl (Nat.le_of_ble_eq_true rfl) (by show (zkn SH 138 == zown 156) = true; rw [show zkn SH 138 = 10 from kn_138]; rfl)
theorem q_196_65 {d : Nat} (v1 v2 s0 s1 : Int) (M : ZM) : Q d 196 65 [zR 138, zI v1, zI v2] [zI s1, zI s0] M = if s1 < 0 then (Q d 196 47 [zR 138, zI (zor s0 0), zI (zw (v2 + 1))] [] M) else (Cb (E d 156 [zR 138, zI v2, zI 4] M) (fun v h => zrun (zevl d) 196 75 [zR 138, zI v1, zI v2] (v.toList ++ [zI 1, zI s0]) h)) := by
  refine Eq.trans (s_if (P := s1 < 0) 79 f_196_65 (by decide) rfl) (ite_cg (fun h1 => ?_) (fun h1 => ?_))
  · refine Eq.trans (s_iconst f_196_79) ?_
    refine Eq.trans (s_ior f_196_80) ?_
    refine Eq.trans (s_istoren f_196_81 rfl) ?_
    refine Eq.trans (s_iinc f_196_82 rfl rfl) ?_
    refine Eq.trans (s_goto 47 f_196_85 (by decide)) ?_
    rfl
  · refine Eq.trans (s_iconst f_196_68) ?_
    refine Eq.trans (s_aloadn f_196_69 rfl) ?_
    refine Eq.trans (s_iloadn f_196_70 rfl) ?_
    refine Eq.trans (s_iconst f_196_71) ?_
    exact s_call [zR 138, zI v2, zI 4] [zI 1, zI s0] f_196_72 rfl c_196_62 rfl rfl (Nat.le_of_ble_eq_true rfl) (by show (zkn SH 138 == zown 156) = true; rw [show zkn SH 138 = 10 from kn_138]; rfl)
theorem q_196_75 {d : Nat} (v1 v2 s0 s1 s2 : Int) (M : ZM) : Q d 196 75 [zR 138, zI v1, zI v2] [zI s2, zI s1, zI s0] M = Q d 196 47 [zR 138, zI (zor s0 (zshl s1 s2)), zI (zw (v2 + 1))] [] M := by
  refine Eq.trans (s_ishl f_196_75) ?_
  refine Eq.trans (s_goto 80 f_196_76 (by decide)) ?_
  refine Eq.trans (s_ior f_196_80) ?_
  refine Eq.trans (s_istoren f_196_81 rfl) ?_
  refine Eq.trans (s_iinc f_196_82 rfl rfl) ?_
  refine Eq.trans (s_goto 47 f_196_85 (by decide)) ?_
  rfl
theorem en_196 {d : Nat} (M : ZM) : E (d + 1) 196 [zR 138] M = Q d 196 0 [zR 138, zU, zU] [] M := e_in (Nat.le_of_ble_eq_true rfl)
-- DungeonBuilderModel.placeLock()I
theorem q_197_0 {d : Nat} (M : ZM) : Q d 197 0 [zR 138, zU, zU, zU, zU] [] M = Q d 197 4 [zR 138, zI (-1), zI 0, zU, zU] [] M := by
  refine Eq.trans (s_iconst f_197_0) ?_
  refine Eq.trans (s_istoren f_197_1 rfl) ?_
  refine Eq.trans (s_iconst f_197_2) ?_
  refine Eq.trans (s_istoren f_197_3 rfl) ?_
  rfl
theorem q_197_4 {d : Nat} (v1 v2 : Int) (M : ZM) : Q d 197 4 [zR 138, zI v1, zI v2, zU, zU] [] M = if (M 139 121) ≤ v2 then (if v1 ≠ (-1) then (Q d 197 93 [zR 138, zI v1, zI 0, zU, zU] [] M) else (Rt (some (zI (-104))) M)) else (Cb (E d 157 [zR 138, zI v2, zI 2] M) (fun v h => zrun (zevl d) 197 21 [zR 138, zI v1, zI v2, zU, zU] (v.toList ++ []) h)) := by
  refine Eq.trans (s_iloadn f_197_4 rfl) ?_
  refine Eq.trans (s_aloadn f_197_5 rfl) ?_
  refine Eq.trans (s_getR f_197_6 g_197_7 (by decide) kn_138 rf_138_0) ?_
  refine Eq.trans (s_bipush f_197_9) ?_
  refine Eq.trans (s_iald f_197_11 kn_139 ln_139) (Eq.trans (if_pos (by decide)) ?_)
  refine Eq.trans (s_icmp (P := (M 139 121) ≤ v2) 83 f_197_12 (by decide) rfl) (ite_cg (fun h1 => ?_) (fun h1 => ?_))
  · refine Eq.trans (s_iloadn f_197_83 rfl) ?_
    refine Eq.trans (s_iconst f_197_84) ?_
    refine Eq.trans (s_icmp (P := v1 ≠ (-1)) 91 f_197_85 (by decide) rfl) (ite_cg (fun h2 => ?_) (fun h2 => ?_))
    · refine Eq.trans (s_iconst f_197_91) ?_
      refine Eq.trans (s_istoren f_197_92 rfl) ?_
      rfl
    · refine Eq.trans (s_bipush f_197_88) ?_
      exact s_iret f_197_90 t_197
  · refine Eq.trans (s_aloadn f_197_15 rfl) ?_
    refine Eq.trans (s_iloadn f_197_16 rfl) ?_
    refine Eq.trans (s_iconst f_197_17) ?_
    exact s_call [zR 138, zI v2, zI 2] [] f_197_18 rfl c_197_85 rfl rfl (Nat.le_of_ble_eq_true rfl) (by show (zkn SH 138 == zown 157) = true; rw [show zkn SH 138 = 10 from kn_138]; rfl)
theorem q_197_21 {d : Nat} (v1 v2 s0 : Int) (M : ZM) : Q d 197 21 [zR 138, zI v1, zI v2, zU, zU] [zI s0] M = if s0 ≠ (-1) then (Q d 197 4 [zR 138, zI v1, zI (zw (v2 + 1)), zU, zU] [] M) else (Cb (E d 195 [zR 138, zI v2] M) (fun v h => zrun (zevl d) 197 30 [zR 138, zI v1, zI v2, zU, zU] (v.toList ++ []) h)) := by
  refine Eq.trans (s_iconst f_197_21) ?_
  refine Eq.trans (s_icmp (P := s0 ≠ (-1)) 77 f_197_22 (by decide) rfl) (ite_cg (fun h1 => ?_) (fun h1 => ?_))
  · refine Eq.trans (s_iinc f_197_77 rfl rfl) ?_
    refine Eq.trans (s_goto 4 f_197_80 (by decide)) ?_
    rfl
  · refine Eq.trans (s_aloadn f_197_25 rfl) ?_
    refine Eq.trans (s_iloadn f_197_26 rfl) ?_
    exact s_call [zR 138, zI v2] [] f_197_27 rfl c_197_182 rfl rfl (Nat.le_of_ble_eq_true rfl) (by show (zkn SH 138 == zown 195) = true; rw [show zkn SH 138 = 10 from kn_138]; rfl)
theorem q_197_30 {d : Nat} (v1 v2 s0 : Int) (M : ZM) : Q d 197 30 [zR 138, zI v1, zI v2, zU, zU] [zI s0] M = if s0 ≤ 0 then (Q d 197 4 [zR 138, zI v1, zI (zw (v2 + 1)), zU, zU] [] M) else (if v1 = (-1) then (Q d 197 4 [zR 138, zI v2, zI (zw (v2 + 1)), zU, zU] [] M) else (Cb (E d 195 [zR 138, zI v2] M) (fun v h => zrun (zevl d) 197 44 [zR 138, zI v1, zI v2, zU, zU] (v.toList ++ [zI 2]) h))) := by
  refine Eq.trans (s_if (P := s0 ≤ 0) 77 f_197_30 (by decide) rfl) (ite_cg (fun h1 => ?_) (fun h1 => ?_))
  · refine Eq.trans (s_iinc f_197_77 rfl rfl) ?_
    refine Eq.trans (s_goto 4 f_197_80 (by decide)) ?_
    rfl
  · refine Eq.trans (s_iloadn f_197_33 rfl) ?_
    refine Eq.trans (s_iconst f_197_34) ?_
    refine Eq.trans (s_icmp (P := v1 = (-1)) 75 f_197_35 (by decide) rfl) (ite_cg (fun h2 => ?_) (fun h2 => ?_))
    · refine Eq.trans (s_iloadn f_197_75 rfl) ?_
      refine Eq.trans (s_istoren f_197_76 rfl) ?_
      refine Eq.trans (s_iinc f_197_77 rfl rfl) ?_
      refine Eq.trans (s_goto 4 f_197_80 (by decide)) ?_
      rfl
    · refine Eq.trans (s_iconst f_197_38) ?_
      refine Eq.trans (s_aloadn f_197_39 rfl) ?_
      refine Eq.trans (s_iloadn f_197_40 rfl) ?_
      exact s_call [zR 138, zI v2] [zI 2] f_197_41 rfl c_197_182 rfl rfl (Nat.le_of_ble_eq_true rfl) (by show (zkn SH 138 == zown 195) = true; rw [show zkn SH 138 = 10 from kn_138]; rfl)
theorem q_197_44 {d : Nat} (v1 v2 s0 s1 : Int) (M : ZM) : Q d 197 44 [zR 138, zI v1, zI v2, zU, zU] [zI s1, zI s0] M = Cb (E d 160 [zI (zw (s0 * s1)), zI (M 139 120)] M) (fun v h => zrun (zevl d) 197 55 [zR 138, zI v1, zI v2, zU, zU] (v.toList ++ []) h) := by
  refine Eq.trans (s_imul f_197_44) ?_
  refine Eq.trans (s_aloadn f_197_45 rfl) ?_
  refine Eq.trans (s_getR f_197_46 g_197_7 (by decide) kn_138 rf_138_0) ?_
  refine Eq.trans (s_bipush f_197_49) ?_
  refine Eq.trans (s_iald f_197_51 kn_139 ln_139) (Eq.trans (if_pos (by decide)) ?_)
  exact s_call [zI (zw (s0 * s1)), zI (M 139 120)] [] f_197_52 rfl c_197_70 rfl rfl (Nat.le_of_ble_eq_true rfl) rfl
theorem q_197_55 {d : Nat} (v1 v2 s0 : Int) (M : ZM) : Q d 197 55 [zR 138, zI v1, zI v2, zU, zU] [zI s0] M = Cb (E d 195 [zR 138, zI v1] M) (fun v h => zrun (zevl d) 197 61 [zR 138, zI v1, zI v2, zU, zU] (v.toList ++ [zI 2, zI s0]) h) := by
  refine Eq.trans (s_iconst f_197_55) ?_
  refine Eq.trans (s_aloadn f_197_56 rfl) ?_
  refine Eq.trans (s_iloadn f_197_57 rfl) ?_
  exact s_call [zR 138, zI v1] [zI 2, zI s0] f_197_58 rfl c_197_182 rfl rfl (Nat.le_of_ble_eq_true rfl) (by show (zkn SH 138 == zown 195) = true; rw [show zkn SH 138 = 10 from kn_138]; rfl)
theorem q_197_61 {d : Nat} (v1 v2 s0 s1 s2 : Int) (M : ZM) : Q d 197 61 [zR 138, zI v1, zI v2, zU, zU] [zI s2, zI s1, zI s0] M = Cb (E d 160 [zI (zw (s1 * s2)), zI (M 139 120)] M) (fun v h => zrun (zevl d) 197 72 [zR 138, zI v1, zI v2, zU, zU] (v.toList ++ [zI s0]) h) := by
  refine Eq.trans (s_imul f_197_61) ?_
  refine Eq.trans (s_aloadn f_197_62 rfl) ?_
  refine Eq.trans (s_getR f_197_63 g_197_7 (by decide) kn_138 rf_138_0) ?_
  refine Eq.trans (s_bipush f_197_66) ?_
  refine Eq.trans (s_iald f_197_68 kn_139 ln_139) (Eq.trans (if_pos (by decide)) ?_)
  exact s_call [zI (zw (s1 * s2)), zI (M 139 120)] [zI s0] f_197_69 rfl c_197_70 rfl rfl (Nat.le_of_ble_eq_true rfl) rfl
theorem q_197_72 {d : Nat} (v1 v2 s0 s1 : Int) (M : ZM) : Q d 197 72 [zR 138, zI v1, zI v2, zU, zU] [zI s1, zI s0] M = if s1 ≤ s0 then (Q d 197 4 [zR 138, zI v1, zI (zw (v2 + 1)), zU, zU] [] M) else (Q d 197 4 [zR 138, zI v2, zI (zw (v2 + 1)), zU, zU] [] M) := by
  refine Eq.trans (s_icmp (P := s1 ≤ s0) 77 f_197_72 (by decide) rfl) (ite_cg (fun h1 => ?_) (fun h1 => ?_))
  · refine Eq.trans (s_iinc f_197_77 rfl rfl) ?_
    refine Eq.trans (s_goto 4 f_197_80 (by decide)) ?_
    rfl
  · refine Eq.trans (s_iloadn f_197_75 rfl) ?_
    refine Eq.trans (s_istoren f_197_76 rfl) ?_
    refine Eq.trans (s_iinc f_197_77 rfl rfl) ?_
    refine Eq.trans (s_goto 4 f_197_80 (by decide)) ?_
    rfl
theorem q_197_93 {d : Nat} (v1 v2 : Int) (M : ZM) : Q d 197 93 [zR 138, zI v1, zI v2, zU, zU] [] M = if 6 ≤ v2 then (if v2 ≠ 6 then (Cb (E d 193 [zR 138, zI v1, zI (-1), zI (-1)] M) (fun v h => zrun (zevl d) 197 133 [zR 138, zI v1, zI v2, zU, zU] (v.toList ++ []) h)) else (Rt (some (zI (-103))) M)) else (Cb (E d 196 [zR 138] M) (fun v h => zrun (zevl d) 197 103 [zR 138, zI v1, zI v2, zU, zU] (v.toList ++ []) h)) := by
  refine Eq.trans (s_iloadn f_197_93 rfl) ?_
  refine Eq.trans (s_bipush f_197_94) ?_
  refine Eq.trans (s_icmp (P := 6 ≤ v2) 117 f_197_96 (by decide) rfl) (ite_cg (fun h1 => ?_) (fun h1 => ?_))
  · refine Eq.trans (s_iloadn f_197_117 rfl) ?_
    refine Eq.trans (s_bipush f_197_118) ?_
    refine Eq.trans (s_icmp (P := v2 ≠ 6) 126 f_197_120 (by decide) rfl) (ite_cg (fun h2 => ?_) (fun h2 => ?_))
    · refine Eq.trans (s_aloadn f_197_126 rfl) ?_
      refine Eq.trans (s_iloadn f_197_127 rfl) ?_
      refine Eq.trans (s_iconst f_197_128) ?_
      refine Eq.trans (s_iconst f_197_129) ?_
      exact s_call [zR 138, zI v1, zI (-1), zI (-1)] [] f_197_130 rfl c_197_179 rfl rfl (Nat.le_of_ble_eq_true rfl) (by show (zkn SH 138 == zown 193) = true; rw [show zkn SH 138 = 10 from kn_138]; rfl)
    · refine Eq.trans (s_bipush f_197_123) ?_
      exact s_iret f_197_125 t_197
  · refine Eq.trans (s_aloadn f_197_99 rfl) ?_
    exact s_call [zR 138] [] f_197_100 rfl c_197_185 rfl rfl (Nat.le_of_ble_eq_true rfl) (by show (zkn SH 138 == zown 196) = true; rw [show zkn SH 138 = 10 from kn_138]; rfl)
theorem q_197_103 {d : Nat} (v1 v2 s0 : Int) (M : ZM) : Q d 197 103 [zR 138, zI v1, zI v2, zU, zU] [zI s0] M = if (zand (zshr s0 v2) 1) ≠ 1 then (if v2 ≠ 6 then (Cb (E d 193 [zR 138, zI v1, zI (-1), zI (-1)] M) (fun v h => zrun (zevl d) 197 133 [zR 138, zI v1, zI v2, zU, zU] (v.toList ++ []) h)) else (Rt (some (zI (-103))) M)) else (Q d 197 93 [zR 138, zI v1, zI (zw (v2 + 1)), zU, zU] [] M) := by
  refine Eq.trans (s_iloadn f_197_103 rfl) ?_
  refine Eq.trans (s_ishr f_197_104) ?_
  refine Eq.trans (s_iconst f_197_105) ?_
  refine Eq.trans (s_iand f_197_106) ?_
  refine Eq.trans (s_iconst f_197_107) ?_
  refine Eq.trans (s_icmp (P := (zand (zshr s0 v2) 1) ≠ 1) 117 f_197_108 (by decide) rfl) (ite_cg (fun h1 => ?_) (fun h1 => ?_))
  · refine Eq.trans (s_iloadn f_197_117 rfl) ?_
    refine Eq.trans (s_bipush f_197_118) ?_
    refine Eq.trans (s_icmp (P := v2 ≠ 6) 126 f_197_120 (by decide) rfl) (ite_cg (fun h2 => ?_) (fun h2 => ?_))
    · refine Eq.trans (s_aloadn f_197_126 rfl) ?_
      refine Eq.trans (s_iloadn f_197_127 rfl) ?_
      refine Eq.trans (s_iconst f_197_128) ?_
      refine Eq.trans (s_iconst f_197_129) ?_
      exact s_call [zR 138, zI v1, zI (-1), zI (-1)] [] f_197_130 rfl c_197_179 rfl rfl (Nat.le_of_ble_eq_true rfl) (by show (zkn SH 138 == zown 193) = true; rw [show zkn SH 138 = 10 from kn_138]; rfl)
    · refine Eq.trans (s_bipush f_197_123) ?_
      exact s_iret f_197_125 t_197
  · refine Eq.trans (s_iinc f_197_111 rfl rfl) ?_
    refine Eq.trans (s_goto 93 f_197_114 (by decide)) ?_
    rfl
theorem q_197_133 {d : Nat} (v1 v2 : Int) (M : ZM) : Q d 197 133 [zR 138, zI v1, zI v2, zU, zU] [] M = Q d 197 138 [zR 138, zI v1, zI v2, zI (-1), zI 0] [] M := by
  refine Eq.trans (s_iconst f_197_133) ?_
  refine Eq.trans (s_istoren f_197_134 rfl) ?_
  refine Eq.trans (s_iconst f_197_135) ?_
  refine Eq.trans (s_istore f_197_136 rfl) ?_
  rfl
theorem q_197_138 {d : Nat} (v1 v2 v3 v4 : Int) (M : ZM) : Q d 197 138 [zR 138, zI v1, zI v2, zI v3, zI v4] [] M = if (M 139 120) ≤ v4 then (if v3 ≠ (-1) then (Cb (E d 162 [zR 138] M) (fun v h => zrun (zevl d) 197 211 [zR 138, zI v1, zI v2, zI v3, zI v4] (v.toList ++ []) h)) else (Rt (some (zI (-105))) M)) else (if 0 ≤ v4 ∧ v4 < 12 then if (M 147 v4) = 0 then (Q d 197 138 [zR 138, zI v1, zI v2, zI v3, zI (zw (v4 + 1))] [] M) else (Cb (E d 156 [zR 138, zI v4, zI 4] M) (fun v h => zrun (zevl d) 197 167 [zR 138, zI v1, zI v2, zI v3, zI v4] (v.toList ++ []) h)) else none) := by
  refine Eq.trans (s_iload f_197_138 rfl) ?_
  refine Eq.trans (s_aloadn f_197_140 rfl) ?_
  refine Eq.trans (s_getR f_197_141 g_197_7 (by decide) kn_138 rf_138_0) ?_
  refine Eq.trans (s_bipush f_197_144) ?_
  refine Eq.trans (s_iald f_197_146 kn_139 ln_139) (Eq.trans (if_pos (by decide)) ?_)
  refine Eq.trans (s_icmp (P := (M 139 120) ≤ v4) 199 f_197_147 (by decide) rfl) (ite_cg (fun h1 => ?_) (fun h1 => ?_))
  · refine Eq.trans (s_iloadn f_197_199 rfl) ?_
    refine Eq.trans (s_iconst f_197_200) ?_
    refine Eq.trans (s_icmp (P := v3 ≠ (-1)) 207 f_197_201 (by decide) rfl) (ite_cg (fun h2 => ?_) (fun h2 => ?_))
    · refine Eq.trans (s_aloadn f_197_207 rfl) ?_
      exact s_call [zR 138] [] f_197_208 rfl c_197_101 rfl rfl (Nat.le_of_ble_eq_true rfl) (by show (zkn SH 138 == zown 162) = true; rw [show zkn SH 138 = 10 from kn_138]; rfl)
    · refine Eq.trans (s_bipush f_197_204) ?_
      exact s_iret f_197_206 t_197
  · refine Eq.trans (s_aloadn f_197_150 rfl) ?_
    refine Eq.trans (s_getR f_197_151 g_197_34 (by decide) kn_138 rf_138_14) ?_
    refine Eq.trans (s_iload f_197_154 rfl) ?_
    refine Eq.trans (s_bald f_197_156 kn_147 ln_147) (gd_cg fun h3 => ?_)
    refine Eq.trans (s_if (P := (M 147 v4) = 0) 193 f_197_157 (by decide) rfl) (ite_cg (fun h4 => ?_) (fun h4 => ?_))
    · refine Eq.trans (s_iinc f_197_193 rfl rfl) ?_
      refine Eq.trans (s_goto 138 f_197_196 (by decide)) ?_
      rfl
    · refine Eq.trans (s_aloadn f_197_160 rfl) ?_
      refine Eq.trans (s_iload f_197_161 rfl) ?_
      refine Eq.trans (s_iconst f_197_163) ?_
      exact s_call [zR 138, zI v4, zI 4] [] f_197_164 rfl c_197_62 rfl rfl (Nat.le_of_ble_eq_true rfl) (by show (zkn SH 138 == zown 156) = true; rw [show zkn SH 138 = 10 from kn_138]; rfl)
theorem q_197_167 {d : Nat} (v1 v2 v3 v4 s0 : Int) (M : ZM) : Q d 197 167 [zR 138, zI v1, zI v2, zI v3, zI v4] [zI s0] M = if s0 ≠ (-1) then (Q d 197 138 [zR 138, zI v1, zI v2, zI v3, zI (zw (v4 + 1))] [] M) else (if v3 = (-1) then (Q d 197 138 [zR 138, zI v1, zI v2, zI v4, zI (zw (v4 + 1))] [] M) else (Cb (E d 188 [zR 138, zI v4] M) (fun v h => zrun (zevl d) 197 182 [zR 138, zI v1, zI v2, zI v3, zI v4] (v.toList ++ []) h))) := by
  refine Eq.trans (s_iconst f_197_167) ?_
  refine Eq.trans (s_icmp (P := s0 ≠ (-1)) 193 f_197_168 (by decide) rfl) (ite_cg (fun h1 => ?_) (fun h1 => ?_))
  · refine Eq.trans (s_iinc f_197_193 rfl rfl) ?_
    refine Eq.trans (s_goto 138 f_197_196 (by decide)) ?_
    rfl
  · refine Eq.trans (s_iloadn f_197_171 rfl) ?_
    refine Eq.trans (s_iconst f_197_172) ?_
    refine Eq.trans (s_icmp (P := v3 = (-1)) 190 f_197_173 (by decide) rfl) (ite_cg (fun h2 => ?_) (fun h2 => ?_))
    · refine Eq.trans (s_iload f_197_190 rfl) ?_
      refine Eq.trans (s_istoren f_197_192 rfl) ?_
      refine Eq.trans (s_iinc f_197_193 rfl rfl) ?_
      refine Eq.trans (s_goto 138 f_197_196 (by decide)) ?_
      rfl
    · refine Eq.trans (s_aloadn f_197_176 rfl) ?_
      refine Eq.trans (s_iload f_197_177 rfl) ?_
      exact s_call [zR 138, zI v4] [] f_197_179 rfl c_197_158 rfl rfl (Nat.le_of_ble_eq_true rfl) (by show (zkn SH 138 == zown 188) = true; rw [show zkn SH 138 = 10 from kn_138]; rfl)
theorem q_197_182 {d : Nat} (v1 v2 v3 v4 s0 : Int) (M : ZM) : Q d 197 182 [zR 138, zI v1, zI v2, zI v3, zI v4] [zI s0] M = Cb (E d 188 [zR 138, zI v3] M) (fun v h => zrun (zevl d) 197 187 [zR 138, zI v1, zI v2, zI v3, zI v4] (v.toList ++ [zI s0]) h) := by
  refine Eq.trans (s_aloadn f_197_182 rfl) ?_
  refine Eq.trans (s_iloadn f_197_183 rfl) ?_
  exact s_call [zR 138, zI v3] [zI s0] f_197_184 rfl c_197_158 rfl rfl (Nat.le_of_ble_eq_true rfl) (by show (zkn SH 138 == zown 188) = true; rw [show zkn SH 138 = 10 from kn_138]; rfl)
theorem q_197_187 {d : Nat} (v1 v2 v3 v4 s0 s1 : Int) (M : ZM) : Q d 197 187 [zR 138, zI v1, zI v2, zI v3, zI v4] [zI s1, zI s0] M = if s0 ≤ s1 then (Q d 197 138 [zR 138, zI v1, zI v2, zI v3, zI (zw (v4 + 1))] [] M) else (Q d 197 138 [zR 138, zI v1, zI v2, zI v4, zI (zw (v4 + 1))] [] M) := by
  refine Eq.trans (s_icmp (P := s0 ≤ s1) 193 f_197_187 (by decide) rfl) (ite_cg (fun h1 => ?_) (fun h1 => ?_))
  · refine Eq.trans (s_iinc f_197_193 rfl rfl) ?_
    refine Eq.trans (s_goto 138 f_197_196 (by decide)) ?_
    rfl
  · refine Eq.trans (s_iload f_197_190 rfl) ?_
    refine Eq.trans (s_istoren f_197_192 rfl) ?_
    refine Eq.trans (s_iinc f_197_193 rfl rfl) ?_
    refine Eq.trans (s_goto 138 f_197_196 (by decide)) ?_
    rfl
theorem q_197_211 {d : Nat} (v1 v2 v3 v4 : Int) (M : ZM) : Q d 197 211 [zR 138, zI v1, zI v2, zI v3, zI v4] [] M = Cb (E d 170 [zR 138, zI v1, zI v2] M) (fun v h => zrun (zevl d) 197 217 [zR 138, zI v1, zI v2, zI v3, zI v4] (v.toList ++ []) h) := by
  refine Eq.trans (s_aloadn f_197_211 rfl) ?_
  refine Eq.trans (s_iloadn f_197_212 rfl) ?_
  refine Eq.trans (s_iloadn f_197_213 rfl) ?_
  exact s_call [zR 138, zI v1, zI v2] [] f_197_214 rfl c_197_114 rfl rfl (Nat.le_of_ble_eq_true rfl) (by show (zkn SH 138 == zown 170) = true; rw [show zkn SH 138 = 10 from kn_138]; rfl)
theorem q_197_217 {d : Nat} (v1 v2 v3 v4 s0 : Int) (M : ZM) : Q d 197 217 [zR 138, zI v1, zI v2, zI v3, zI v4] [zI s0] M = Cb (E d 171 [zR 138, zI v3, zI v2] M) (fun v h => zrun (zevl d) 197 225 [zR 138, zI v1, zI v2, zI v3, zI s0] (v.toList ++ []) h) := by
  refine Eq.trans (s_istore f_197_217 rfl) ?_
  refine Eq.trans (s_aloadn f_197_219 rfl) ?_
  refine Eq.trans (s_iloadn f_197_220 rfl) ?_
  refine Eq.trans (s_iloadn f_197_221 rfl) ?_
  exact s_call [zR 138, zI v3, zI v2] [] f_197_222 rfl c_197_117 rfl rfl (Nat.le_of_ble_eq_true rfl) (by show (zkn SH 138 == zown 171) = true; rw [show zkn SH 138 = 10 from kn_138]; rfl)
theorem q_197_225 {d : Nat} (v1 v2 v3 v4 s0 : Int) (M : ZM) : Q d 197 225 [zR 138, zI v1, zI v2, zI v3, zI v4] [zI s0] M = Cb (E d 163 [zR 138] M) (fun v h => zrun (zevl d) 197 231 [zR 138, zI v1, zI v2, zI v3, zI s0] (v.toList ++ []) h) := by
  refine Eq.trans (s_istore f_197_225 rfl) ?_
  refine Eq.trans (s_aloadn f_197_227 rfl) ?_
  exact s_call [zR 138] [] f_197_228 rfl c_197_79 rfl rfl (Nat.le_of_ble_eq_true rfl) (by show (zkn SH 138 == zown 163) = true; rw [show zkn SH 138 = 10 from kn_138]; rfl)
theorem q_197_231 {d : Nat} (v1 v2 v3 v4 : Int) (M : ZM) : Q d 197 231 [zR 138, zI v1, zI v2, zI v3, zI v4] [] M = Rt (some (zI v1)) M := by
  refine Eq.trans (s_iloadn f_197_231 rfl) ?_
  exact s_iret f_197_232 t_197
theorem en_197 {d : Nat} (M : ZM) : E (d + 1) 197 [zR 138] M = Q d 197 0 [zR 138, zU, zU, zU, zU] [] M := e_in (Nat.le_of_ble_eq_true rfl)
-- DungeonBuilderModel.setCurve(I)I
theorem q_198_0 {d : Nat} (v1 : Int) (M : ZM) : Q d 198 0 [zR 138, zI v1, zU] [] M = Cb (E d 153 [zI v1, zI 0, zI 2] M) (fun v h => zrun (zevl d) 198 6 [zR 138, zI v1, zU] (v.toList ++ []) h) := by
  refine Eq.trans (s_iloadn f_198_0 rfl) ?_
  refine Eq.trans (s_iconst f_198_1) ?_
  refine Eq.trans (s_iconst f_198_2) ?_
  exact s_call [zI v1, zI 0, zI 2] [] f_198_3 rfl c_198_58 rfl rfl (Nat.le_of_ble_eq_true rfl) rfl
theorem q_198_6 {d : Nat} (v1 s0 : Int) (M : ZM) : Q d 198 6 [zR 138, zI v1, zU] [zI s0] M = if s0 ≠ 0 then (Cb (E d 162 [zR 138] M) (fun v h => zrun (zevl d) 198 16 [zR 138, zI v1, zU] (v.toList ++ []) h)) else (Rt (some (zI (-102))) M) := by
  refine Eq.trans (s_if (P := s0 ≠ 0) 12 f_198_6 (by decide) rfl) (ite_cg (fun h1 => ?_) (fun h1 => ?_))
  · refine Eq.trans (s_aloadn f_198_12 rfl) ?_
    exact s_call [zR 138] [] f_198_13 rfl c_198_101 rfl rfl (Nat.le_of_ble_eq_true rfl) (by show (zkn SH 138 == zown 162) = true; rw [show zkn SH 138 = 10 from kn_138]; rfl)
  · refine Eq.trans (s_bipush f_198_9) ?_
    exact s_iret f_198_11 t_198
theorem q_198_16 {d : Nat} (v1 : Int) (M : ZM) : Q d 198 16 [zR 138, zI v1, zU] [] M = Cb (E d 163 [zR 138] M) (fun v h => zrun (zevl d) 198 20 [zR 138, zI v1, zU] (v.toList ++ []) h) := by
  refine Eq.trans (s_aloadn f_198_16 rfl) ?_
  exact s_call [zR 138] [] f_198_17 rfl c_198_79 rfl rfl (Nat.le_of_ble_eq_true rfl) (by show (zkn SH 138 == zown 163) = true; rw [show zkn SH 138 = 10 from kn_138]; rfl)
theorem q_198_20 {d : Nat} (v1 : Int) (M : ZM) : Q d 198 20 [zR 138, zI v1, zU] [] M = Rt (some (zI (M 139 123))) (zwr M 139 123 v1) := by
  refine Eq.trans (s_aloadn f_198_20 rfl) ?_
  refine Eq.trans (s_getR f_198_21 g_198_7 (by decide) kn_138 rf_138_0) ?_
  refine Eq.trans (s_bipush f_198_24) ?_
  refine Eq.trans (s_iald f_198_26 kn_139 ln_139) (Eq.trans (if_pos (by decide)) ?_)
  refine Eq.trans (s_istoren f_198_27 rfl) ?_
  refine Eq.trans (s_aloadn f_198_28 rfl) ?_
  refine Eq.trans (s_getR f_198_29 g_198_7 (by decide) kn_138 rf_138_0) ?_
  refine Eq.trans (s_bipush f_198_32) ?_
  refine Eq.trans (s_iloadn f_198_34 rfl) ?_
  refine Eq.trans (s_iast f_198_35 kn_139 ln_139) (Eq.trans (if_pos (by decide)) ?_)
  refine Eq.trans (s_iloadn f_198_36 rfl) ?_
  exact s_iret f_198_37 t_198
theorem en_198 {d : Nat} (v1 : Int) (M : ZM) : E (d + 1) 198 [zR 138, zI v1] M = Q d 198 0 [zR 138, zI v1, zU] [] M := e_in (Nat.le_of_ble_eq_true rfl)
-- DungeonBuilderModel.append(I)I
theorem q_199_0 {d : Nat} (v1 : Int) (M : ZM) : Q d 199 0 [zR 138, zI v1, zU, zU, zU] [] M = Q d 199 5 [zR 138, zI v1, zI 0, zI 24, zU] [] M := by
  refine Eq.trans (s_iconst f_199_0) ?_
  refine Eq.trans (s_istoren f_199_1 rfl) ?_
  refine Eq.trans (s_bipush f_199_2) ?_
  refine Eq.trans (s_istoren f_199_4 rfl) ?_
  rfl
theorem q_199_5 {d : Nat} (v1 v2 v3 : Int) (z4 : ZV) (M : ZM) : Q d 199 5 [zR 138, zI v1, zI v2, zI v3, z4] [] M = if v3 < 0 then (if (zw ((M 138 17) + v2)) ≤ 60 then (Q d 199 74 [zR 138, zI v1, zI v2, zI 24, z4] [] M) else (Rt (some (zI (-103))) M)) else (if (zand (zushr v1 v3) 255) = 0 then (if (zand (zushr v1 v3) 255) = 0 then (Q d 199 5 [zR 138, zI v1, zI (zw (v2 + 0)), zI (zw (v3 + (-8))), zI (zand (zushr v1 v3) 255)] [] M) else (Q d 199 5 [zR 138, zI v1, zI (zw (v2 + 1)), zI (zw (v3 + (-8))), zI (zand (zushr v1 v3) 255)] [] M)) else (Cb (E d 153 [zI (zand (zushr v1 v3) 255), zI 33, zI 126] M) (fun v h => zrun (zevl d) 199 32 [zR 138, zI v1, zI v2, zI v3, zI (zand (zushr v1 v3) 255)] (v.toList ++ []) h))) := by
  refine Eq.trans (s_iloadn f_199_5 rfl) ?_
  refine Eq.trans (s_if (P := v3 < 0) 57 f_199_6 (by decide) rfl) (ite_cg (fun h1 => ?_) (fun h1 => ?_))
  · refine Eq.trans (s_aloadn f_199_57 rfl) ?_
    refine Eq.trans (s_getI f_199_58 g_199_189 (by decide) kn_138) ?_
    refine Eq.trans (s_iloadn f_199_61 rfl) ?_
    refine Eq.trans (s_iadd f_199_62) ?_
    refine Eq.trans (s_bipush f_199_63) ?_
    refine Eq.trans (s_icmp (P := (zw ((M 138 17) + v2)) ≤ 60) 71 f_199_65 (by decide) rfl) (ite_cg (fun h2 => ?_) (fun h2 => ?_))
    · refine Eq.trans (s_bipush f_199_71) ?_
      refine Eq.trans (s_istoren f_199_73 rfl) ?_
      rfl
    · refine Eq.trans (s_bipush f_199_68) ?_
      exact s_iret f_199_70 t_199
  · refine Eq.trans (s_iloadn f_199_9 rfl) ?_
    refine Eq.trans (s_iloadn f_199_10 rfl) ?_
    refine Eq.trans (s_iushr f_199_11) ?_
    refine Eq.trans (s_sipush f_199_12) ?_
    refine Eq.trans (s_iand f_199_15) ?_
    refine Eq.trans (s_istore f_199_16 rfl) ?_
    refine Eq.trans (s_iload f_199_18 rfl) ?_
    refine Eq.trans (s_if (P := (zand (zushr v1 v3) 255) = 0) 38 f_199_20 (by decide) rfl) (ite_cg (fun h3 => ?_) (fun h3 => ?_))
    · refine Eq.trans (s_iloadn f_199_38 rfl) ?_
      refine Eq.trans (s_iload f_199_39 rfl) ?_
      refine Eq.trans (s_if (P := (zand (zushr v1 v3) 255) = 0) 48 f_199_41 (by decide) rfl) (ite_cg (fun h4 => ?_) (fun h4 => ?_))
      · refine Eq.trans (s_iconst f_199_48) ?_
        refine Eq.trans (s_iadd f_199_49) ?_
        refine Eq.trans (s_istoren f_199_50 rfl) ?_
        refine Eq.trans (s_iinc f_199_51 rfl rfl) ?_
        refine Eq.trans (s_goto 5 f_199_54 (by decide)) ?_
        rfl
      · refine Eq.trans (s_iconst f_199_44) ?_
        refine Eq.trans (s_goto 49 f_199_45 (by decide)) ?_
        refine Eq.trans (s_iadd f_199_49) ?_
        refine Eq.trans (s_istoren f_199_50 rfl) ?_
        refine Eq.trans (s_iinc f_199_51 rfl rfl) ?_
        refine Eq.trans (s_goto 5 f_199_54 (by decide)) ?_
        rfl
    · refine Eq.trans (s_iload f_199_23 rfl) ?_
      refine Eq.trans (s_bipush f_199_25) ?_
      refine Eq.trans (s_bipush f_199_27) ?_
      exact s_call [zI (zand (zushr v1 v3) 255), zI 33, zI 126] [] f_199_29 rfl c_199_58 rfl rfl (Nat.le_of_ble_eq_true rfl) rfl
theorem q_199_32 {d : Nat} (v1 v2 v3 v4 s0 : Int) (M : ZM) : Q d 199 32 [zR 138, zI v1, zI v2, zI v3, zI v4] [zI s0] M = if s0 ≠ 0 then (if v4 = 0 then (Q d 199 5 [zR 138, zI v1, zI (zw (v2 + 0)), zI (zw (v3 + (-8))), zI v4] [] M) else (Q d 199 5 [zR 138, zI v1, zI (zw (v2 + 1)), zI (zw (v3 + (-8))), zI v4] [] M)) else (Rt (some (zI (-102))) M) := by
  refine Eq.trans (s_if (P := s0 ≠ 0) 38 f_199_32 (by decide) rfl) (ite_cg (fun h1 => ?_) (fun h1 => ?_))
  · refine Eq.trans (s_iloadn f_199_38 rfl) ?_
    refine Eq.trans (s_iload f_199_39 rfl) ?_
    refine Eq.trans (s_if (P := v4 = 0) 48 f_199_41 (by decide) rfl) (ite_cg (fun h2 => ?_) (fun h2 => ?_))
    · refine Eq.trans (s_iconst f_199_48) ?_
      refine Eq.trans (s_iadd f_199_49) ?_
      refine Eq.trans (s_istoren f_199_50 rfl) ?_
      refine Eq.trans (s_iinc f_199_51 rfl rfl) ?_
      refine Eq.trans (s_goto 5 f_199_54 (by decide)) ?_
      rfl
    · refine Eq.trans (s_iconst f_199_44) ?_
      refine Eq.trans (s_goto 49 f_199_45 (by decide)) ?_
      refine Eq.trans (s_iadd f_199_49) ?_
      refine Eq.trans (s_istoren f_199_50 rfl) ?_
      refine Eq.trans (s_iinc f_199_51 rfl rfl) ?_
      refine Eq.trans (s_goto 5 f_199_54 (by decide)) ?_
      rfl
  · refine Eq.trans (s_bipush f_199_35) ?_
    exact s_iret f_199_37 t_199
theorem q_199_74 {d : Nat} (v1 v2 v3 : Int) (z4 : ZV) (M : ZM) : Q d 199 74 [zR 138, zI v1, zI v2, zI v3, z4] [] M = if v3 < 0 then (Rt (some (zI (M 138 17))) M) else (if (zand (zushr v1 v3) 255) = 0 then (Q d 199 74 [zR 138, zI v1, zI v2, zI (zw (v3 + (-8))), zI (zand (zushr v1 v3) 255)] [] M) else (if 0 ≤ (zand (zushr v1 v3) 255) ∧ (zand (zushr v1 v3) 255) < 65536 then if (0 ≤ (M 138 17) ∧ (M 138 17) < 60) ∧ 0 ≤ (zand (zushr v1 v3) 255) ∧ (zand (zushr v1 v3) 255) < 65536 then Q d 199 74 [zR 138, zI v1, zI v2, zI (zw (v3 + (-8))), zI (zand (zushr v1 v3) 255)] [] (zwr (zwr M 148 (M 138 17) (zand (zushr v1 v3) 255)) 138 17 (zw (((zwr M 148 (M 138 17) (zand (zushr v1 v3) 255)) 138 17) + 1))) else none else none)) := by
  refine Eq.trans (s_iloadn f_199_74 rfl) ?_
  refine Eq.trans (s_if (P := v3 < 0) 120 f_199_75 (by decide) rfl) (ite_cg (fun h1 => ?_) (fun h1 => ?_))
  · refine Eq.trans (s_aloadn f_199_120 rfl) ?_
    refine Eq.trans (s_getI f_199_121 g_199_189 (by decide) kn_138) ?_
    exact s_iret f_199_124 t_199
  · refine Eq.trans (s_iloadn f_199_78 rfl) ?_
    refine Eq.trans (s_iloadn f_199_79 rfl) ?_
    refine Eq.trans (s_iushr f_199_80) ?_
    refine Eq.trans (s_sipush f_199_81) ?_
    refine Eq.trans (s_iand f_199_84) ?_
    refine Eq.trans (s_istore f_199_85 rfl) ?_
    refine Eq.trans (s_iload f_199_87 rfl) ?_
    refine Eq.trans (s_if (P := (zand (zushr v1 v3) 255) = 0) 114 f_199_89 (by decide) rfl) (ite_cg (fun h2 => ?_) (fun h2 => ?_))
    · refine Eq.trans (s_iinc f_199_114 rfl rfl) ?_
      refine Eq.trans (s_goto 74 f_199_117 (by decide)) ?_
      rfl
    · refine Eq.trans (s_aloadn f_199_92 rfl) ?_
      refine Eq.trans (s_getR f_199_93 g_199_38 (by decide) kn_138 rf_138_16) ?_
      refine Eq.trans (s_aloadn f_199_96 rfl) ?_
      refine Eq.trans (s_getI f_199_97 g_199_189 (by decide) kn_138) ?_
      refine Eq.trans (s_iload f_199_100 rfl) ?_
      refine Eq.trans (s_i2c f_199_102) (gd_cg fun h3 => ?_)
      refine Eq.trans (s_cast f_199_103 kn_148 ln_148) (gd_cg fun h4 => ?_)
      refine Eq.trans (s_aloadn f_199_104 rfl) ?_
      refine Eq.trans (s_dup f_199_105 rfl) ?_
      refine Eq.trans (s_getI f_199_106 g_199_189 (by decide) kn_138) ?_
      refine Eq.trans (s_iconst f_199_109) ?_
      refine Eq.trans (s_iadd f_199_110) ?_
      refine Eq.trans (s_putI f_199_111 g_199_189 (by decide) kn_138) ?_
      refine Eq.trans (s_iinc f_199_114 rfl rfl) ?_
      refine Eq.trans (s_goto 74 f_199_117 (by decide)) ?_
      rfl
theorem en_199 {d : Nat} (v1 : Int) (M : ZM) : E (d + 1) 199 [zR 138, zI v1] M = Q d 199 0 [zR 138, zI v1, zU, zU, zU] [] M := e_in (Nat.le_of_ble_eq_true rfl)
-- DungeonBuilderModel.eats(I)Z
theorem q_200_0 {d : Nat} (v1 : Int) (M : ZM) : Q d 200 0 [zR 138, zI v1] [] M = if (M 138 17) ≤ (M 138 19) then (Rt (some (zI 0)) M) else (if 0 ≤ (M 138 19) ∧ (M 138 19) < 60 then if (M 148 (M 138 19)) = v1 then (Rt (some (zI 1)) (zwr M 138 19 (zw ((M 138 19) + 1)))) else (Rt (some (zI 0)) M) else none) := by
  refine Eq.trans (s_aloadn f_200_0 rfl) ?_
  refine Eq.trans (s_getI f_200_1 g_200_192 (by decide) kn_138) ?_
  refine Eq.trans (s_aloadn f_200_4 rfl) ?_
  refine Eq.trans (s_getI f_200_5 g_200_189 (by decide) kn_138) ?_
  refine Eq.trans (s_icmp (P := (M 138 17) ≤ (M 138 19)) 24 f_200_8 (by decide) rfl) (ite_cg (fun h1 => ?_) (fun h1 => ?_))
  · refine Eq.trans (s_iconst f_200_24) ?_
    exact s_zret f_200_25 t_200 (by decide)
  · refine Eq.trans (s_aloadn f_200_11 rfl) ?_
    refine Eq.trans (s_getR f_200_12 g_200_38 (by decide) kn_138 rf_138_16) ?_
    refine Eq.trans (s_aloadn f_200_15 rfl) ?_
    refine Eq.trans (s_getI f_200_16 g_200_192 (by decide) kn_138) ?_
    refine Eq.trans (s_cald f_200_19 kn_148 ln_148) (gd_cg fun h2 => ?_)
    refine Eq.trans (s_iloadn f_200_20 rfl) ?_
    refine Eq.trans (s_icmp (P := (M 148 (M 138 19)) = v1) 26 f_200_21 (by decide) rfl) (ite_cg (fun h3 => ?_) (fun h3 => ?_))
    · refine Eq.trans (s_aloadn f_200_26 rfl) ?_
      refine Eq.trans (s_dup f_200_27 rfl) ?_
      refine Eq.trans (s_getI f_200_28 g_200_192 (by decide) kn_138) ?_
      refine Eq.trans (s_iconst f_200_31) ?_
      refine Eq.trans (s_iadd f_200_32) ?_
      refine Eq.trans (s_putI f_200_33 g_200_192 (by decide) kn_138) ?_
      refine Eq.trans (s_iconst f_200_36) ?_
      exact s_zret f_200_37 t_200 (by decide)
    · refine Eq.trans (s_iconst f_200_24) ?_
      exact s_zret f_200_25 t_200 (by decide)
theorem en_200 {d : Nat} (v1 : Int) (M : ZM) : E (d + 1) 200 [zR 138, zI v1] M = Q d 200 0 [zR 138, zI v1] [] M := e_in (Nat.le_of_ble_eq_true rfl)
-- DungeonBuilderModel.partsOf(I)I
theorem q_201_0 {d : Nat} (v0 : Int) (M : ZM) : Q d 201 0 [zI v0] [] M = if v0 ≠ 114 then (if v0 = 99 then (Rt (some (zI 2)) M) else (if v0 = 108 then (Rt (some (zI 2)) M) else (if v0 ≠ 107 then (if v0 ≠ 101 then (Rt (some (zI 0)) M) else (Rt (some (zI 1)) M)) else (Rt (some (zI 2)) M)))) else (Rt (some (zI 4)) M) := by
  refine Eq.trans (s_iloadn f_201_0 rfl) ?_
  refine Eq.trans (s_bipush f_201_1) ?_
  refine Eq.trans (s_icmp (P := v0 ≠ 114) 10 f_201_3 (by decide) rfl) (ite_cg (fun h1 => ?_) (fun h1 => ?_))
  · refine Eq.trans (s_iloadn f_201_10 rfl) ?_
    refine Eq.trans (s_bipush f_201_11) ?_
    refine Eq.trans (s_icmp (P := v0 = 99) 28 f_201_13 (by decide) rfl) (ite_cg (fun h2 => ?_) (fun h2 => ?_))
    · refine Eq.trans (s_iconst f_201_28) ?_
      refine Eq.trans (s_goto 43 f_201_29 (by decide)) ?_
      exact s_iret f_201_43 t_201
    · refine Eq.trans (s_iloadn f_201_16 rfl) ?_
      refine Eq.trans (s_bipush f_201_17) ?_
      refine Eq.trans (s_icmp (P := v0 = 108) 28 f_201_19 (by decide) rfl) (ite_cg (fun h3 => ?_) (fun h3 => ?_))
      · refine Eq.trans (s_iconst f_201_28) ?_
        refine Eq.trans (s_goto 43 f_201_29 (by decide)) ?_
        exact s_iret f_201_43 t_201
      · refine Eq.trans (s_iloadn f_201_22 rfl) ?_
        refine Eq.trans (s_bipush f_201_23) ?_
        refine Eq.trans (s_icmp (P := v0 ≠ 107) 32 f_201_25 (by decide) rfl) (ite_cg (fun h4 => ?_) (fun h4 => ?_))
        · refine Eq.trans (s_iloadn f_201_32 rfl) ?_
          refine Eq.trans (s_bipush f_201_33) ?_
          refine Eq.trans (s_icmp (P := v0 ≠ 101) 42 f_201_35 (by decide) rfl) (ite_cg (fun h5 => ?_) (fun h5 => ?_))
          · refine Eq.trans (s_iconst f_201_42) ?_
            exact s_iret f_201_43 t_201
          · refine Eq.trans (s_iconst f_201_38) ?_
            refine Eq.trans (s_goto 43 f_201_39 (by decide)) ?_
            exact s_iret f_201_43 t_201
        · refine Eq.trans (s_iconst f_201_28) ?_
          refine Eq.trans (s_goto 43 f_201_29 (by decide)) ?_
          exact s_iret f_201_43 t_201
  · refine Eq.trans (s_iconst f_201_6) ?_
    refine Eq.trans (s_goto 43 f_201_7 (by decide)) ?_
    exact s_iret f_201_43 t_201
theorem en_201 {d : Nat} (v0 : Int) (M : ZM) : E (d + 1) 201 [zI v0] M = Q d 201 0 [zI v0] [] M := e_in (Nat.le_of_ble_eq_true rfl)
-- DungeonBuilderModel.readsNumber(I)Z
theorem q_202_0 {d : Nat} (v1 : Int) (M : ZM) : Q d 202 0 [zR 138, zI v1, zU] [] M = if 0 ≤ v1 ∧ v1 < 4 then Q d 202 12 [zR 138, zI v1, zI (M 138 19)] [] (zwr M 149 v1 0) else none := by
  refine Eq.trans (s_aloadn f_202_0 rfl) ?_
  refine Eq.trans (s_getI f_202_1 g_202_192 (by decide) kn_138) ?_
  refine Eq.trans (s_istoren f_202_4 rfl) ?_
  refine Eq.trans (s_aloadn f_202_5 rfl) ?_
  refine Eq.trans (s_getR f_202_6 g_202_46 (by decide) kn_138 rf_138_21) ?_
  refine Eq.trans (s_iloadn f_202_9 rfl) ?_
  refine Eq.trans (s_iconst f_202_10) ?_
  refine Eq.trans (s_iast f_202_11 kn_149 ln_149) (gd_cg fun h1 => ?_)
  rfl
theorem q_202_12 {d : Nat} (v1 v2 : Int) (M : ZM) : Q d 202 12 [zR 138, zI v1, zI v2] [] M = if (M 138 17) ≤ (M 138 19) then (if (M 138 19) ≤ v2 then (Rt (some (zI 0)) M) else (Rt (some (zI 1)) M)) else (if 2 ≤ (zw ((M 138 19) - v2)) then (if (M 138 19) ≤ v2 then (Rt (some (zI 0)) M) else (Rt (some (zI 1)) M)) else (if 0 ≤ (M 138 19) ∧ (M 138 19) < 60 then Cb (E d 153 [zI (M 148 (M 138 19)), zI 48, zI 57] M) (fun v h => zrun (zevl d) 202 49 [zR 138, zI v1, zI v2] (v.toList ++ []) h) else none)) := by
  refine Eq.trans (s_aloadn f_202_12 rfl) ?_
  refine Eq.trans (s_getI f_202_13 g_202_192 (by decide) kn_138) ?_
  refine Eq.trans (s_aloadn f_202_16 rfl) ?_
  refine Eq.trans (s_getI f_202_17 g_202_189 (by decide) kn_138) ?_
  refine Eq.trans (s_icmp (P := (M 138 17) ≤ (M 138 19)) 93 f_202_20 (by decide) rfl) (ite_cg (fun h1 => ?_) (fun h1 => ?_))
  · refine Eq.trans (s_aloadn f_202_93 rfl) ?_
    refine Eq.trans (s_getI f_202_94 g_202_192 (by decide) kn_138) ?_
    refine Eq.trans (s_iloadn f_202_97 rfl) ?_
    refine Eq.trans (s_icmp (P := (M 138 19) ≤ v2) 105 f_202_98 (by decide) rfl) (ite_cg (fun h2 => ?_) (fun h2 => ?_))
    · refine Eq.trans (s_iconst f_202_105) ?_
      exact s_zret f_202_106 t_202 (by decide)
    · refine Eq.trans (s_iconst f_202_101) ?_
      refine Eq.trans (s_goto 106 f_202_102 (by decide)) ?_
      exact s_zret f_202_106 t_202 (by decide)
  · refine Eq.trans (s_aloadn f_202_23 rfl) ?_
    refine Eq.trans (s_getI f_202_24 g_202_192 (by decide) kn_138) ?_
    refine Eq.trans (s_iloadn f_202_27 rfl) ?_
    refine Eq.trans (s_isub f_202_28) ?_
    refine Eq.trans (s_iconst f_202_29) ?_
    refine Eq.trans (s_icmp (P := 2 ≤ (zw ((M 138 19) - v2))) 93 f_202_30 (by decide) rfl) (ite_cg (fun h3 => ?_) (fun h3 => ?_))
    · refine Eq.trans (s_aloadn f_202_93 rfl) ?_
      refine Eq.trans (s_getI f_202_94 g_202_192 (by decide) kn_138) ?_
      refine Eq.trans (s_iloadn f_202_97 rfl) ?_
      refine Eq.trans (s_icmp (P := (M 138 19) ≤ v2) 105 f_202_98 (by decide) rfl) (ite_cg (fun h4 => ?_) (fun h4 => ?_))
      · refine Eq.trans (s_iconst f_202_105) ?_
        exact s_zret f_202_106 t_202 (by decide)
      · refine Eq.trans (s_iconst f_202_101) ?_
        refine Eq.trans (s_goto 106 f_202_102 (by decide)) ?_
        exact s_zret f_202_106 t_202 (by decide)
    · refine Eq.trans (s_aloadn f_202_33 rfl) ?_
      refine Eq.trans (s_getR f_202_34 g_202_38 (by decide) kn_138 rf_138_16) ?_
      refine Eq.trans (s_aloadn f_202_37 rfl) ?_
      refine Eq.trans (s_getI f_202_38 g_202_192 (by decide) kn_138) ?_
      refine Eq.trans (s_cald f_202_41 kn_148 ln_148) (gd_cg fun h5 => ?_)
      refine Eq.trans (s_bipush f_202_42) ?_
      refine Eq.trans (s_bipush f_202_44) ?_
      exact s_call [zI (M 148 (M 138 19)), zI 48, zI 57] [] f_202_46 rfl c_202_58 rfl rfl (Nat.le_of_ble_eq_true rfl) rfl
theorem q_202_49 {d : Nat} (v1 v2 s0 : Int) (M : ZM) : Q d 202 49 [zR 138, zI v1, zI v2] [zI s0] M = if s0 = 0 then (if (M 138 19) ≤ v2 then (Rt (some (zI 0)) M) else (Rt (some (zI 1)) M)) else (if 0 ≤ v1 ∧ v1 < 4 then if 0 ≤ (M 138 19) ∧ (M 138 19) < 60 then if 0 ≤ v1 ∧ v1 < 4 then Q d 202 12 [zR 138, zI v1, zI v2] [] (zwr (zwr M 149 v1 (zw ((zw ((zw (10 * (M 149 v1))) + (M 148 (M 138 19)))) - 48))) 138 19 (zw (((zwr M 149 v1 (zw ((zw ((zw (10 * (M 149 v1))) + (M 148 (M 138 19)))) - 48))) 138 19) + 1))) else none else none else none) := by
  refine Eq.trans (s_if (P := s0 = 0) 93 f_202_49 (by decide) rfl) (ite_cg (fun h1 => ?_) (fun h1 => ?_))
  · refine Eq.trans (s_aloadn f_202_93 rfl) ?_
    refine Eq.trans (s_getI f_202_94 g_202_192 (by decide) kn_138) ?_
    refine Eq.trans (s_iloadn f_202_97 rfl) ?_
    refine Eq.trans (s_icmp (P := (M 138 19) ≤ v2) 105 f_202_98 (by decide) rfl) (ite_cg (fun h2 => ?_) (fun h2 => ?_))
    · refine Eq.trans (s_iconst f_202_105) ?_
      exact s_zret f_202_106 t_202 (by decide)
    · refine Eq.trans (s_iconst f_202_101) ?_
      refine Eq.trans (s_goto 106 f_202_102 (by decide)) ?_
      exact s_zret f_202_106 t_202 (by decide)
  · refine Eq.trans (s_aloadn f_202_52 rfl) ?_
    refine Eq.trans (s_getR f_202_53 g_202_46 (by decide) kn_138 rf_138_21) ?_
    refine Eq.trans (s_iloadn f_202_56 rfl) ?_
    refine Eq.trans (s_bipush f_202_57) ?_
    refine Eq.trans (s_aloadn f_202_59 rfl) ?_
    refine Eq.trans (s_getR f_202_60 g_202_46 (by decide) kn_138 rf_138_21) ?_
    refine Eq.trans (s_iloadn f_202_63 rfl) ?_
    refine Eq.trans (s_iald f_202_64 kn_149 ln_149) (gd_cg fun h3 => ?_)
    refine Eq.trans (s_imul f_202_65) ?_
    refine Eq.trans (s_aloadn f_202_66 rfl) ?_
    refine Eq.trans (s_getR f_202_67 g_202_38 (by decide) kn_138 rf_138_16) ?_
    refine Eq.trans (s_aloadn f_202_70 rfl) ?_
    refine Eq.trans (s_getI f_202_71 g_202_192 (by decide) kn_138) ?_
    refine Eq.trans (s_cald f_202_74 kn_148 ln_148) (gd_cg fun h4 => ?_)
    refine Eq.trans (s_iadd f_202_75) ?_
    refine Eq.trans (s_bipush f_202_76) ?_
    refine Eq.trans (s_isub f_202_78) ?_
    refine Eq.trans (s_iast f_202_79 kn_149 ln_149) (gd_cg fun h5 => ?_)
    refine Eq.trans (s_aloadn f_202_80 rfl) ?_
    refine Eq.trans (s_dup f_202_81 rfl) ?_
    refine Eq.trans (s_getI f_202_82 g_202_192 (by decide) kn_138) ?_
    refine Eq.trans (s_iconst f_202_85) ?_
    refine Eq.trans (s_iadd f_202_86) ?_
    refine Eq.trans (s_putI f_202_87 g_202_192 (by decide) kn_138) ?_
    refine Eq.trans (s_goto 12 f_202_90 (by decide)) ?_
    rfl
theorem en_202 {d : Nat} (v1 : Int) (M : ZM) : E (d + 1) 202 [zR 138, zI v1] M = Q d 202 0 [zR 138, zI v1, zU] [] M := e_in (Nat.le_of_ble_eq_true rfl)
-- DungeonBuilderModel.readsCommand()Z
theorem q_203_0 {d : Nat} (M : ZM) : Q d 203 0 [zR 138, zU, zU] [] M = if (M 138 17) ≤ (M 138 19) then (Cb (E d 201 [zI ((zwr M 138 20 0) 138 20)] (zwr M 138 20 0)) (fun v h => zrun (zevl d) 203 35 [zR 138, zU, zU] (v.toList ++ []) h)) else (if 0 ≤ (M 138 19) ∧ (M 138 19) < 60 then Cb (E d 201 [zI ((zwr M 138 20 (M 148 (M 138 19))) 138 20)] (zwr M 138 20 (M 148 (M 138 19)))) (fun v h => zrun (zevl d) 203 35 [zR 138, zU, zU] (v.toList ++ []) h) else none) := by
  refine Eq.trans (s_aloadn f_203_0 rfl) ?_
  refine Eq.trans (s_aloadn f_203_1 rfl) ?_
  refine Eq.trans (s_getI f_203_2 g_203_192 (by decide) kn_138) ?_
  refine Eq.trans (s_aloadn f_203_5 rfl) ?_
  refine Eq.trans (s_getI f_203_6 g_203_189 (by decide) kn_138) ?_
  refine Eq.trans (s_icmp (P := (M 138 17) ≤ (M 138 19)) 24 f_203_9 (by decide) rfl) (ite_cg (fun h1 => ?_) (fun h1 => ?_))
  · refine Eq.trans (s_iconst f_203_24) ?_
    refine Eq.trans (s_putI f_203_25 g_203_195 (by decide) kn_138) ?_
    refine Eq.trans (s_aloadn f_203_28 rfl) ?_
    refine Eq.trans (s_getI f_203_29 g_203_195 (by decide) kn_138) ?_
    exact s_call [zI ((zwr M 138 20 0) 138 20)] [] f_203_32 rfl c_203_198 rfl rfl (Nat.le_of_ble_eq_true rfl) rfl
  · refine Eq.trans (s_aloadn f_203_12 rfl) ?_
    refine Eq.trans (s_getR f_203_13 g_203_38 (by decide) kn_138 rf_138_16) ?_
    refine Eq.trans (s_aloadn f_203_16 rfl) ?_
    refine Eq.trans (s_getI f_203_17 g_203_192 (by decide) kn_138) ?_
    refine Eq.trans (s_cald f_203_20 kn_148 ln_148) (gd_cg fun h2 => ?_)
    refine Eq.trans (s_goto 25 f_203_21 (by decide)) ?_
    refine Eq.trans (s_putI f_203_25 g_203_195 (by decide) kn_138) ?_
    refine Eq.trans (s_aloadn f_203_28 rfl) ?_
    refine Eq.trans (s_getI f_203_29 g_203_195 (by decide) kn_138) ?_
    exact s_call [zI ((zwr M 138 20 (M 148 (M 138 19))) 138 20)] [] f_203_32 rfl c_203_198 rfl rfl (Nat.le_of_ble_eq_true rfl) rfl
theorem q_203_35 {d : Nat} (s0 : Int) (M : ZM) : Q d 203 35 [zR 138, zU, zU] [zI s0] M = if s0 ≠ 0 then (Q d 203 54 [zR 138, zI s0, zI 0] [] (zwr M 138 19 (zw ((M 138 19) + 1)))) else (Rt (some (zI 0)) M) := by
  refine Eq.trans (s_istoren f_203_35 rfl) ?_
  refine Eq.trans (s_iloadn f_203_36 rfl) ?_
  refine Eq.trans (s_if (P := s0 ≠ 0) 42 f_203_37 (by decide) rfl) (ite_cg (fun h1 => ?_) (fun h1 => ?_))
  · refine Eq.trans (s_aloadn f_203_42 rfl) ?_
    refine Eq.trans (s_dup f_203_43 rfl) ?_
    refine Eq.trans (s_getI f_203_44 g_203_192 (by decide) kn_138) ?_
    refine Eq.trans (s_iconst f_203_47) ?_
    refine Eq.trans (s_iadd f_203_48) ?_
    refine Eq.trans (s_putI f_203_49 g_203_192 (by decide) kn_138) ?_
    refine Eq.trans (s_iconst f_203_52) ?_
    refine Eq.trans (s_istoren f_203_53 rfl) ?_
    rfl
  · refine Eq.trans (s_iconst f_203_40) ?_
    exact s_zret f_203_41 t_203 (by decide)
theorem q_203_54 {d : Nat} (v1 v2 : Int) (M : ZM) : Q d 203 54 [zR 138, zI v1, zI v2] [] M = if v1 ≤ v2 then (Rt (some (zI 1)) M) else (if v2 ≤ 0 then (Cb (E d 202 [zR 138, zI v2] M) (fun v h => zrun (zevl d) 203 77 [zR 138, zI v1, zI v2] (v.toList ++ []) h)) else (Cb (E d 200 [zR 138, zI 44] M) (fun v h => zrun (zevl d) 203 69 [zR 138, zI v1, zI v2] (v.toList ++ []) h))) := by
  refine Eq.trans (s_iloadn f_203_54 rfl) ?_
  refine Eq.trans (s_iloadn f_203_55 rfl) ?_
  refine Eq.trans (s_icmp (P := v1 ≤ v2) 88 f_203_56 (by decide) rfl) (ite_cg (fun h1 => ?_) (fun h1 => ?_))
  · refine Eq.trans (s_iconst f_203_88) ?_
    exact s_zret f_203_89 t_203 (by decide)
  · refine Eq.trans (s_iloadn f_203_59 rfl) ?_
    refine Eq.trans (s_if (P := v2 ≤ 0) 72 f_203_60 (by decide) rfl) (ite_cg (fun h2 => ?_) (fun h2 => ?_))
    · refine Eq.trans (s_aloadn f_203_72 rfl) ?_
      refine Eq.trans (s_iloadn f_203_73 rfl) ?_
      exact s_call [zR 138, zI v2] [] f_203_74 rfl c_203_204 rfl rfl (Nat.le_of_ble_eq_true rfl) (by show (zkn SH 138 == zown 202) = true; rw [show zkn SH 138 = 10 from kn_138]; rfl)
    · refine Eq.trans (s_aloadn f_203_63 rfl) ?_
      refine Eq.trans (s_bipush f_203_64) ?_
      exact s_call [zR 138, zI 44] [] f_203_66 rfl c_203_201 rfl rfl (Nat.le_of_ble_eq_true rfl) (by show (zkn SH 138 == zown 200) = true; rw [show zkn SH 138 = 10 from kn_138]; rfl)
theorem q_203_69 {d : Nat} (v1 v2 s0 : Int) (M : ZM) : Q d 203 69 [zR 138, zI v1, zI v2] [zI s0] M = if s0 = 0 then (Rt (some (zI 0)) M) else (Cb (E d 202 [zR 138, zI v2] M) (fun v h => zrun (zevl d) 203 77 [zR 138, zI v1, zI v2] (v.toList ++ []) h)) := by
  refine Eq.trans (s_if (P := s0 = 0) 80 f_203_69 (by decide) rfl) (ite_cg (fun h1 => ?_) (fun h1 => ?_))
  · refine Eq.trans (s_iconst f_203_80) ?_
    exact s_zret f_203_81 t_203 (by decide)
  · refine Eq.trans (s_aloadn f_203_72 rfl) ?_
    refine Eq.trans (s_iloadn f_203_73 rfl) ?_
    exact s_call [zR 138, zI v2] [] f_203_74 rfl c_203_204 rfl rfl (Nat.le_of_ble_eq_true rfl) (by show (zkn SH 138 == zown 202) = true; rw [show zkn SH 138 = 10 from kn_138]; rfl)
theorem q_203_77 {d : Nat} (v1 v2 s0 : Int) (M : ZM) : Q d 203 77 [zR 138, zI v1, zI v2] [zI s0] M = if s0 ≠ 0 then (Q d 203 54 [zR 138, zI v1, zI (zw (v2 + 1))] [] M) else (Rt (some (zI 0)) M) := by
  refine Eq.trans (s_if (P := s0 ≠ 0) 82 f_203_77 (by decide) rfl) (ite_cg (fun h1 => ?_) (fun h1 => ?_))
  · refine Eq.trans (s_iinc f_203_82 rfl rfl) ?_
    refine Eq.trans (s_goto 54 f_203_85 (by decide)) ?_
    rfl
  · refine Eq.trans (s_iconst f_203_80) ?_
    exact s_zret f_203_81 t_203 (by decide)
theorem en_203 {d : Nat} (M : ZM) : E (d + 1) 203 [zR 138] M = Q d 203 0 [zR 138, zU, zU] [] M := e_in (Nat.le_of_ble_eq_true rfl)
-- DungeonBuilderModel.does()I
theorem q_204_0 {d : Nat} (M : ZM) : Q d 204 0 [zR 138] [] M = if (M 138 20) = 99 then (Cb (E d 168 [zR 138, zI (M 149 0), zI (M 149 1)] M) (fun v h => zrun (zevl d) 204 93 [zR 138] (v.toList ++ []) h)) else (if (M 138 20) = 107 then (Cb (E d 171 [zR 138, zI (M 149 0), zI (M 149 1)] M) (fun v h => zrun (zevl d) 204 127 [zR 138] (v.toList ++ []) h)) else (if (M 138 20) = 108 then (Cb (E d 170 [zR 138, zI (M 149 0), zI (M 149 1)] M) (fun v h => zrun (zevl d) 204 110 [zR 138] (v.toList ++ []) h)) else (if (M 138 20) = 114 then (Cb (E d 166 [zR 138, zI (M 149 0), zI (M 149 1), zI (M 149 2), zI (M 149 3)] M) (fun v h => zrun (zevl d) 204 76 [zR 138] (v.toList ++ []) h)) else (Cb (E d 172 [zR 138, zI (M 149 0)] M) (fun v h => zrun (zevl d) 204 138 [zR 138] (v.toList ++ []) h))))) := by
  refine Eq.trans (s_aloadn f_204_0 rfl) ?_
  refine Eq.trans (s_getI f_204_1 g_204_195 (by decide) kn_138) ?_
  refine Eq.trans (w_204_4) ?_
  refine ite_cg (fun h2 => ?_) (fun h2 => ?_)
  · refine Eq.trans (s_aloadn f_204_77 rfl) ?_
    refine Eq.trans (s_aloadn f_204_78 rfl) ?_
    refine Eq.trans (s_getR f_204_79 g_204_46 (by decide) kn_138 rf_138_21) ?_
    refine Eq.trans (s_iconst f_204_82) ?_
    refine Eq.trans (s_iald f_204_83 kn_149 ln_149) (Eq.trans (if_pos (by decide)) ?_)
    refine Eq.trans (s_aloadn f_204_84 rfl) ?_
    refine Eq.trans (s_getR f_204_85 g_204_46 (by decide) kn_138 rf_138_21) ?_
    refine Eq.trans (s_iconst f_204_88) ?_
    refine Eq.trans (s_iald f_204_89 kn_149 ln_149) (Eq.trans (if_pos (by decide)) ?_)
    exact s_call [zR 138, zI (M 149 0), zI (M 149 1)] [] f_204_90 rfl c_204_111 rfl rfl (Nat.le_of_ble_eq_true rfl) (by show (zkn SH 138 == zown 168) = true; rw [show zkn SH 138 = 10 from kn_138]; rfl)
  refine ite_cg (fun h3 => ?_) (fun h3 => ?_)
  · refine Eq.trans (s_aloadn f_204_111 rfl) ?_
    refine Eq.trans (s_aloadn f_204_112 rfl) ?_
    refine Eq.trans (s_getR f_204_113 g_204_46 (by decide) kn_138 rf_138_21) ?_
    refine Eq.trans (s_iconst f_204_116) ?_
    refine Eq.trans (s_iald f_204_117 kn_149 ln_149) (Eq.trans (if_pos (by decide)) ?_)
    refine Eq.trans (s_aloadn f_204_118 rfl) ?_
    refine Eq.trans (s_getR f_204_119 g_204_46 (by decide) kn_138 rf_138_21) ?_
    refine Eq.trans (s_iconst f_204_122) ?_
    refine Eq.trans (s_iald f_204_123 kn_149 ln_149) (Eq.trans (if_pos (by decide)) ?_)
    exact s_call [zR 138, zI (M 149 0), zI (M 149 1)] [] f_204_124 rfl c_204_117 rfl rfl (Nat.le_of_ble_eq_true rfl) (by show (zkn SH 138 == zown 171) = true; rw [show zkn SH 138 = 10 from kn_138]; rfl)
  refine ite_cg (fun h4 => ?_) (fun h4 => ?_)
  · refine Eq.trans (s_aloadn f_204_94 rfl) ?_
    refine Eq.trans (s_aloadn f_204_95 rfl) ?_
    refine Eq.trans (s_getR f_204_96 g_204_46 (by decide) kn_138 rf_138_21) ?_
    refine Eq.trans (s_iconst f_204_99) ?_
    refine Eq.trans (s_iald f_204_100 kn_149 ln_149) (Eq.trans (if_pos (by decide)) ?_)
    refine Eq.trans (s_aloadn f_204_101 rfl) ?_
    refine Eq.trans (s_getR f_204_102 g_204_46 (by decide) kn_138 rf_138_21) ?_
    refine Eq.trans (s_iconst f_204_105) ?_
    refine Eq.trans (s_iald f_204_106 kn_149 ln_149) (Eq.trans (if_pos (by decide)) ?_)
    exact s_call [zR 138, zI (M 149 0), zI (M 149 1)] [] f_204_107 rfl c_204_114 rfl rfl (Nat.le_of_ble_eq_true rfl) (by show (zkn SH 138 == zown 170) = true; rw [show zkn SH 138 = 10 from kn_138]; rfl)
  refine ite_cg (fun h5 => ?_) (fun h5 => ?_)
  · refine Eq.trans (s_aloadn f_204_48 rfl) ?_
    refine Eq.trans (s_aloadn f_204_49 rfl) ?_
    refine Eq.trans (s_getR f_204_50 g_204_46 (by decide) kn_138 rf_138_21) ?_
    refine Eq.trans (s_iconst f_204_53) ?_
    refine Eq.trans (s_iald f_204_54 kn_149 ln_149) (Eq.trans (if_pos (by decide)) ?_)
    refine Eq.trans (s_aloadn f_204_55 rfl) ?_
    refine Eq.trans (s_getR f_204_56 g_204_46 (by decide) kn_138 rf_138_21) ?_
    refine Eq.trans (s_iconst f_204_59) ?_
    refine Eq.trans (s_iald f_204_60 kn_149 ln_149) (Eq.trans (if_pos (by decide)) ?_)
    refine Eq.trans (s_aloadn f_204_61 rfl) ?_
    refine Eq.trans (s_getR f_204_62 g_204_46 (by decide) kn_138 rf_138_21) ?_
    refine Eq.trans (s_iconst f_204_65) ?_
    refine Eq.trans (s_iald f_204_66 kn_149 ln_149) (Eq.trans (if_pos (by decide)) ?_)
    refine Eq.trans (s_aloadn f_204_67 rfl) ?_
    refine Eq.trans (s_getR f_204_68 g_204_46 (by decide) kn_138 rf_138_21) ?_
    refine Eq.trans (s_iconst f_204_71) ?_
    refine Eq.trans (s_iald f_204_72 kn_149 ln_149) (Eq.trans (if_pos (by decide)) ?_)
    exact s_call [zR 138, zI (M 149 0), zI (M 149 1), zI (M 149 2), zI (M 149 3)] [] f_204_73 rfl c_204_104 rfl rfl (Nat.le_of_ble_eq_true rfl) (by show (zkn SH 138 == zown 166) = true; rw [show zkn SH 138 = 10 from kn_138]; rfl)
  refine Eq.trans (s_aloadn f_204_128 rfl) ?_
  refine Eq.trans (s_aloadn f_204_129 rfl) ?_
  refine Eq.trans (s_getR f_204_130 g_204_46 (by decide) kn_138 rf_138_21) ?_
  refine Eq.trans (s_iconst f_204_133) ?_
  refine Eq.trans (s_iald f_204_134 kn_149 ln_149) (Eq.trans (if_pos (by decide)) ?_)
  exact s_call [zR 138, zI (M 149 0)] [] f_204_135 rfl c_204_120 rfl rfl (Nat.le_of_ble_eq_true rfl) (by show (zkn SH 138 == zown 172) = true; rw [show zkn SH 138 = 10 from kn_138]; rfl)
theorem q_204_76 {d : Nat} (s0 : Int) (M : ZM) : Q d 204 76 [zR 138] [zI s0] M = Rt (some (zI s0)) M := by
  exact s_iret f_204_76 t_204
theorem q_204_93 {d : Nat} (s0 : Int) (M : ZM) : Q d 204 93 [zR 138] [zI s0] M = Rt (some (zI s0)) M := by
  exact s_iret f_204_93 t_204
theorem q_204_110 {d : Nat} (s0 : Int) (M : ZM) : Q d 204 110 [zR 138] [zI s0] M = Rt (some (zI s0)) M := by
  exact s_iret f_204_110 t_204
theorem q_204_127 {d : Nat} (s0 : Int) (M : ZM) : Q d 204 127 [zR 138] [zI s0] M = Rt (some (zI s0)) M := by
  exact s_iret f_204_127 t_204
theorem q_204_138 {d : Nat} (s0 : Int) (M : ZM) : Q d 204 138 [zR 138] [zI s0] M = Rt (some (zI s0)) M := by
  exact s_iret f_204_138 t_204
theorem en_204 {d : Nat} (M : ZM) : E (d + 1) 204 [zR 138] M = Q d 204 0 [zR 138] [] M := e_in (Nat.le_of_ble_eq_true rfl)
