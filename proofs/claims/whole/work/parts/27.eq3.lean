-- DungeonBuilderModel.read()I
theorem q_205_0 {d : Nat} (M : ZM) : Q d 205 0 [zR 138, zU, zU, zU, zU, zU] [] M = Cb (E d 203 [zR 138] (zwr M 138 19 0)) (fun v h => zrun (zevl d) 205 9 [zR 138, zU, zU, zU, zU, zU] (v.toList ++ []) h) := by
  refine Eq.trans (s_aloadn f_205_0 rfl) ?_
  refine Eq.trans (s_iconst f_205_1) ?_
  refine Eq.trans (s_putI f_205_2 g_205_192 (by decide) kn_138) ?_
  refine Eq.trans (s_aloadn f_205_5 rfl) ?_
  exact s_call [zR 138] [] f_205_6 rfl c_205_207 rfl rfl (Nat.le_of_ble_eq_true rfl) (by show (zkn SH 138 == zown 203) = true; rw [show zkn SH 138 = 10 from kn_138]; rfl)
theorem q_205_9 {d : Nat} (s0 : Int) (M : ZM) : Q d 205 9 [zR 138, zU, zU, zU, zU, zU] [zI s0] M = Q d 205 10 [zR 138, zI s0, zU, zU, zU, zU] [] M := by
  refine Eq.trans (s_istoren f_205_9 rfl) ?_
  rfl
theorem q_205_10 {d : Nat} (v1 : Int) (M : ZM) : Q d 205 10 [zR 138, zI v1, zU, zU, zU, zU] [] M = if v1 = 0 then (if v1 = 0 then (Rt (some (zI (-102))) (zwr (zwr M 138 18 (M 138 19)) 138 17 0)) else (if (M 138 17) ≤ (M 138 19) then (Cb (E d 162 [zR 138] M) (fun v h => zrun (zevl d) 205 66 [zR 138, zI v1, zU, zU, zU, zU] (v.toList ++ []) h)) else (Rt (some (zI (-102))) (zwr (zwr M 138 18 (M 138 19)) 138 17 0)))) else (Cb (E d 200 [zR 138, zI 59] M) (fun v h => zrun (zevl d) 205 20 [zR 138, zI v1, zU, zU, zU, zU] (v.toList ++ []) h)) := by
  refine Eq.trans (s_iloadn f_205_10 rfl) ?_
  refine Eq.trans (s_if (P := v1 = 0) 31 f_205_11 (by decide) rfl) (ite_cg (fun h1 => ?_) (fun h1 => ?_))
  · refine Eq.trans (s_iloadn f_205_31 rfl) ?_
    refine Eq.trans (s_if (P := v1 = 0) 46 f_205_32 (by decide) rfl) (ite_cg (fun h2 => ?_) (fun h2 => ?_))
    · refine Eq.trans (s_aloadn f_205_46 rfl) ?_
      refine Eq.trans (s_aloadn f_205_47 rfl) ?_
      refine Eq.trans (s_getI f_205_48 g_205_192 (by decide) kn_138) ?_
      refine Eq.trans (s_putI f_205_51 g_205_42 (by decide) kn_138) ?_
      refine Eq.trans (s_aloadn f_205_54 rfl) ?_
      refine Eq.trans (s_iconst f_205_55) ?_
      refine Eq.trans (s_putI f_205_56 g_205_189 (by decide) kn_138) ?_
      refine Eq.trans (s_bipush f_205_59) ?_
      exact s_iret f_205_61 t_205
    · refine Eq.trans (s_aloadn f_205_35 rfl) ?_
      refine Eq.trans (s_getI f_205_36 g_205_192 (by decide) kn_138) ?_
      refine Eq.trans (s_aloadn f_205_39 rfl) ?_
      refine Eq.trans (s_getI f_205_40 g_205_189 (by decide) kn_138) ?_
      refine Eq.trans (s_icmp (P := (M 138 17) ≤ (M 138 19)) 62 f_205_43 (by decide) rfl) (ite_cg (fun h3 => ?_) (fun h3 => ?_))
      · refine Eq.trans (s_aloadn f_205_62 rfl) ?_
        exact s_call [zR 138] [] f_205_63 rfl c_205_101 rfl rfl (Nat.le_of_ble_eq_true rfl) (by show (zkn SH 138 == zown 162) = true; rw [show zkn SH 138 = 10 from kn_138]; rfl)
      · refine Eq.trans (s_aloadn f_205_46 rfl) ?_
        refine Eq.trans (s_aloadn f_205_47 rfl) ?_
        refine Eq.trans (s_getI f_205_48 g_205_192 (by decide) kn_138) ?_
        refine Eq.trans (s_putI f_205_51 g_205_42 (by decide) kn_138) ?_
        refine Eq.trans (s_aloadn f_205_54 rfl) ?_
        refine Eq.trans (s_iconst f_205_55) ?_
        refine Eq.trans (s_putI f_205_56 g_205_189 (by decide) kn_138) ?_
        refine Eq.trans (s_bipush f_205_59) ?_
        exact s_iret f_205_61 t_205
  · refine Eq.trans (s_aloadn f_205_14 rfl) ?_
    refine Eq.trans (s_bipush f_205_15) ?_
    exact s_call [zR 138, zI 59] [] f_205_17 rfl c_205_201 rfl rfl (Nat.le_of_ble_eq_true rfl) (by show (zkn SH 138 == zown 200) = true; rw [show zkn SH 138 = 10 from kn_138]; rfl)
theorem q_205_20 {d : Nat} (v1 s0 : Int) (M : ZM) : Q d 205 20 [zR 138, zI v1, zU, zU, zU, zU] [zI s0] M = if s0 = 0 then (if v1 = 0 then (Rt (some (zI (-102))) (zwr (zwr M 138 18 (M 138 19)) 138 17 0)) else (if (M 138 17) ≤ (M 138 19) then (Cb (E d 162 [zR 138] M) (fun v h => zrun (zevl d) 205 66 [zR 138, zI v1, zU, zU, zU, zU] (v.toList ++ []) h)) else (Rt (some (zI (-102))) (zwr (zwr M 138 18 (M 138 19)) 138 17 0)))) else (Cb (E d 203 [zR 138] M) (fun v h => zrun (zevl d) 205 27 [zR 138, zI v1, zU, zU, zU, zU] (v.toList ++ []) h)) := by
  refine Eq.trans (s_if (P := s0 = 0) 31 f_205_20 (by decide) rfl) (ite_cg (fun h1 => ?_) (fun h1 => ?_))
  · refine Eq.trans (s_iloadn f_205_31 rfl) ?_
    refine Eq.trans (s_if (P := v1 = 0) 46 f_205_32 (by decide) rfl) (ite_cg (fun h2 => ?_) (fun h2 => ?_))
    · refine Eq.trans (s_aloadn f_205_46 rfl) ?_
      refine Eq.trans (s_aloadn f_205_47 rfl) ?_
      refine Eq.trans (s_getI f_205_48 g_205_192 (by decide) kn_138) ?_
      refine Eq.trans (s_putI f_205_51 g_205_42 (by decide) kn_138) ?_
      refine Eq.trans (s_aloadn f_205_54 rfl) ?_
      refine Eq.trans (s_iconst f_205_55) ?_
      refine Eq.trans (s_putI f_205_56 g_205_189 (by decide) kn_138) ?_
      refine Eq.trans (s_bipush f_205_59) ?_
      exact s_iret f_205_61 t_205
    · refine Eq.trans (s_aloadn f_205_35 rfl) ?_
      refine Eq.trans (s_getI f_205_36 g_205_192 (by decide) kn_138) ?_
      refine Eq.trans (s_aloadn f_205_39 rfl) ?_
      refine Eq.trans (s_getI f_205_40 g_205_189 (by decide) kn_138) ?_
      refine Eq.trans (s_icmp (P := (M 138 17) ≤ (M 138 19)) 62 f_205_43 (by decide) rfl) (ite_cg (fun h3 => ?_) (fun h3 => ?_))
      · refine Eq.trans (s_aloadn f_205_62 rfl) ?_
        exact s_call [zR 138] [] f_205_63 rfl c_205_101 rfl rfl (Nat.le_of_ble_eq_true rfl) (by show (zkn SH 138 == zown 162) = true; rw [show zkn SH 138 = 10 from kn_138]; rfl)
      · refine Eq.trans (s_aloadn f_205_46 rfl) ?_
        refine Eq.trans (s_aloadn f_205_47 rfl) ?_
        refine Eq.trans (s_getI f_205_48 g_205_192 (by decide) kn_138) ?_
        refine Eq.trans (s_putI f_205_51 g_205_42 (by decide) kn_138) ?_
        refine Eq.trans (s_aloadn f_205_54 rfl) ?_
        refine Eq.trans (s_iconst f_205_55) ?_
        refine Eq.trans (s_putI f_205_56 g_205_189 (by decide) kn_138) ?_
        refine Eq.trans (s_bipush f_205_59) ?_
        exact s_iret f_205_61 t_205
  · refine Eq.trans (s_aloadn f_205_23 rfl) ?_
    exact s_call [zR 138] [] f_205_24 rfl c_205_207 rfl rfl (Nat.le_of_ble_eq_true rfl) (by show (zkn SH 138 == zown 203) = true; rw [show zkn SH 138 = 10 from kn_138]; rfl)
theorem q_205_27 {d : Nat} (v1 s0 : Int) (M : ZM) : Q d 205 27 [zR 138, zI v1, zU, zU, zU, zU] [zI s0] M = Q d 205 10 [zR 138, zI s0, zU, zU, zU, zU] [] M := by
  refine Eq.trans (s_istoren f_205_27 rfl) ?_
  refine Eq.trans (s_goto 10 f_205_28 (by decide)) ?_
  rfl
theorem q_205_66 {d : Nat} (v1 : Int) (M : ZM) : Q d 205 66 [zR 138, zI v1, zU, zU, zU, zU] [] M = Q d 205 75 [zR 138, zI v1, zI 0, zI 0, zU, zU] [] (zwr M 138 19 0) := by
  refine Eq.trans (s_aloadn f_205_66 rfl) ?_
  refine Eq.trans (s_iconst f_205_67) ?_
  refine Eq.trans (s_putI f_205_68 g_205_192 (by decide) kn_138) ?_
  refine Eq.trans (s_iconst f_205_71) ?_
  refine Eq.trans (s_istoren f_205_72 rfl) ?_
  refine Eq.trans (s_iconst f_205_73) ?_
  refine Eq.trans (s_istoren f_205_74 rfl) ?_
  rfl
theorem q_205_75 {d : Nat} (v1 v2 v3 : Int) (z4 : ZV) (M : ZM) : Q d 205 75 [zR 138, zI v1, zI v2, zI v3, z4, zU] [] M = if (M 138 17) ≤ (M 138 19) then (Cb (E d 163 [zR 138] (zwr (zwr M 138 18 (-104)) 138 17 0)) (fun v h => zrun (zevl d) 205 185 [zR 138, zI v1, zI v2, zI v3, z4, zU] (v.toList ++ []) h)) else (Cb (E d 203 [zR 138] M) (fun v h => zrun (zevl d) 205 95 [zR 138, zI v1, zI v2, zI (M 138 19), z4, zU] (v.toList ++ []) h)) := by
  refine Eq.trans (s_aloadn f_205_75 rfl) ?_
  refine Eq.trans (s_getI f_205_76 g_205_192 (by decide) kn_138) ?_
  refine Eq.trans (s_aloadn f_205_79 rfl) ?_
  refine Eq.trans (s_getI f_205_80 g_205_189 (by decide) kn_138) ?_
  refine Eq.trans (s_icmp (P := (M 138 17) ≤ (M 138 19)) 170 f_205_83 (by decide) rfl) (ite_cg (fun h1 => ?_) (fun h1 => ?_))
  · refine Eq.trans (s_aloadn f_205_170 rfl) ?_
    refine Eq.trans (s_bipush f_205_171) ?_
    refine Eq.trans (s_putI f_205_173 g_205_42 (by decide) kn_138) ?_
    refine Eq.trans (s_aloadn f_205_176 rfl) ?_
    refine Eq.trans (s_iconst f_205_177) ?_
    refine Eq.trans (s_putI f_205_178 g_205_189 (by decide) kn_138) ?_
    refine Eq.trans (s_aloadn f_205_181 rfl) ?_
    exact s_call [zR 138] [] f_205_182 rfl c_205_79 rfl rfl (Nat.le_of_ble_eq_true rfl) (by show (zkn SH 138 == zown 163) = true; rw [show zkn SH 138 = 10 from kn_138]; rfl)
  · refine Eq.trans (s_aloadn f_205_86 rfl) ?_
    refine Eq.trans (s_getI f_205_87 g_205_192 (by decide) kn_138) ?_
    refine Eq.trans (s_istoren f_205_90 rfl) ?_
    refine Eq.trans (s_aloadn f_205_91 rfl) ?_
    exact s_call [zR 138] [] f_205_92 rfl c_205_207 rfl rfl (Nat.le_of_ble_eq_true rfl) (by show (zkn SH 138 == zown 203) = true; rw [show zkn SH 138 = 10 from kn_138]; rfl)
theorem q_205_95 {d : Nat} (v1 v2 v3 s0 : Int) (z4 : ZV) (M : ZM) : Q d 205 95 [zR 138, zI v1, zI v2, zI v3, z4, zU] [zI s0] M = Cb (E d 204 [zR 138] M) (fun v h => zrun (zevl d) 205 100 [zR 138, zI s0, zI v2, zI v3, z4, zU] (v.toList ++ []) h) := by
  refine Eq.trans (s_istoren f_205_95 rfl) ?_
  refine Eq.trans (s_aloadn f_205_96 rfl) ?_
  exact s_call [zR 138] [] f_205_97 rfl c_205_211 rfl rfl (Nat.le_of_ble_eq_true rfl) (by show (zkn SH 138 == zown 204) = true; rw [show zkn SH 138 = 10 from kn_138]; rfl)
theorem q_205_100 {d : Nat} (v1 v2 v3 s0 : Int) (z4 : ZV) (M : ZM) : Q d 205 100 [zR 138, zI v1, zI v2, zI v3, z4, zU] [zI s0] M = if 0 ≤ s0 then (Cb (E d 200 [zR 138, zI 59] M) (fun v h => zrun (zevl d) 205 166 [zR 138, zI v1, zI (zw (v2 + 1)), zI v3, zI s0, zU] (v.toList ++ []) h)) else (if s0 = (-104) then (Cb (E d 200 [zR 138, zI 59] M) (fun v h => zrun (zevl d) 205 166 [zR 138, zI v1, zI (zw (v2 + 1)), zI v3, zI s0, zU] (v.toList ++ []) h)) else (Q d 205 117 [zR 138, zI v1, zI v2, zI v3, zI s0, zI 0] [] M)) := by
  refine Eq.trans (s_istore f_205_100 rfl) ?_
  refine Eq.trans (s_iload f_205_102 rfl) ?_
  refine Eq.trans (s_if (P := 0 ≤ s0) 157 f_205_104 (by decide) rfl) (ite_cg (fun h1 => ?_) (fun h1 => ?_))
  · refine Eq.trans (s_iinc f_205_157 rfl rfl) ?_
    refine Eq.trans (s_aloadn f_205_160 rfl) ?_
    refine Eq.trans (s_bipush f_205_161) ?_
    exact s_call [zR 138, zI 59] [] f_205_163 rfl c_205_201 rfl rfl (Nat.le_of_ble_eq_true rfl) (by show (zkn SH 138 == zown 200) = true; rw [show zkn SH 138 = 10 from kn_138]; rfl)
  · refine Eq.trans (s_iload f_205_107 rfl) ?_
    refine Eq.trans (s_bipush f_205_109) ?_
    refine Eq.trans (s_icmp (P := s0 = (-104)) 157 f_205_111 (by decide) rfl) (ite_cg (fun h2 => ?_) (fun h2 => ?_))
    · refine Eq.trans (s_iinc f_205_157 rfl rfl) ?_
      refine Eq.trans (s_aloadn f_205_160 rfl) ?_
      refine Eq.trans (s_bipush f_205_161) ?_
      exact s_call [zR 138, zI 59] [] f_205_163 rfl c_205_201 rfl rfl (Nat.le_of_ble_eq_true rfl) (by show (zkn SH 138 == zown 200) = true; rw [show zkn SH 138 = 10 from kn_138]; rfl)
    · refine Eq.trans (s_iconst f_205_114) ?_
      refine Eq.trans (s_istore f_205_115 rfl) ?_
      rfl
theorem q_205_117 {d : Nat} (v1 v2 v3 v4 v5 : Int) (M : ZM) : Q d 205 117 [zR 138, zI v1, zI v2, zI v3, zI v4, zI v5] [] M = if 124 ≤ v5 then (Rt (some (zI (-105))) (zwr (zwr M 138 18 v3) 138 17 0)) else (if 0 ≤ v5 ∧ v5 < 124 then if 0 ≤ v5 ∧ v5 < 124 then Q d 205 117 [zR 138, zI v1, zI v2, zI v3, zI v4, zI (zw (v5 + 1))] [] (zwr M 139 v5 (M 142 v5)) else none else none) := by
  refine Eq.trans (s_iload f_205_117 rfl) ?_
  refine Eq.trans (s_bipush f_205_119) ?_
  refine Eq.trans (s_icmp (P := 124 ≤ v5) 144 f_205_121 (by decide) rfl) (ite_cg (fun h1 => ?_) (fun h1 => ?_))
  · refine Eq.trans (s_aloadn f_205_144 rfl) ?_
    refine Eq.trans (s_iloadn f_205_145 rfl) ?_
    refine Eq.trans (s_putI f_205_146 g_205_42 (by decide) kn_138) ?_
    refine Eq.trans (s_aloadn f_205_149 rfl) ?_
    refine Eq.trans (s_iconst f_205_150) ?_
    refine Eq.trans (s_putI f_205_151 g_205_189 (by decide) kn_138) ?_
    refine Eq.trans (s_bipush f_205_154) ?_
    exact s_iret f_205_156 t_205
  · refine Eq.trans (s_aloadn f_205_124 rfl) ?_
    refine Eq.trans (s_getR f_205_125 g_205_7 (by decide) kn_138 rf_138_0) ?_
    refine Eq.trans (s_iload f_205_128 rfl) ?_
    refine Eq.trans (s_aloadn f_205_130 rfl) ?_
    refine Eq.trans (s_getR f_205_131 g_205_19 (by decide) kn_138 rf_138_5) ?_
    refine Eq.trans (s_iload f_205_134 rfl) ?_
    refine Eq.trans (s_iald f_205_136 kn_142 ln_142) (gd_cg fun h2 => ?_)
    refine Eq.trans (s_iast f_205_137 kn_139 ln_139) (gd_cg fun h3 => ?_)
    refine Eq.trans (s_iinc f_205_138 rfl rfl) ?_
    refine Eq.trans (s_goto 117 f_205_141 (by decide)) ?_
    rfl
theorem q_205_166 {d : Nat} (v1 v2 v3 v4 s0 : Int) (M : ZM) : Q d 205 166 [zR 138, zI v1, zI v2, zI v3, zI v4, zU] [zI s0] M = Q d 205 75 [zR 138, zI s0, zI v2, zI v3, zI v4, zU] [] M := by
  refine Eq.trans (s_istoren f_205_166 rfl) ?_
  refine Eq.trans (s_goto 75 f_205_167 (by decide)) ?_
  rfl
theorem q_205_185 {d : Nat} (v1 v2 v3 : Int) (z4 : ZV) (M : ZM) : Q d 205 185 [zR 138, zI v1, zI v2, zI v3, z4, zU] [] M = Rt (some (zI v2)) M := by
  refine Eq.trans (s_iloadn f_205_185 rfl) ?_
  exact s_iret f_205_186 t_205
theorem en_205 {d : Nat} (M : ZM) : E (d + 1) 205 [zR 138] M = Q d 205 0 [zR 138, zU, zU, zU, zU, zU] [] M := e_in (Nat.le_of_ble_eq_true rfl)
-- DungeonBuilderModel.faultPosition()I
theorem q_206_0 {d : Nat} (M : ZM) : Q d 206 0 [zR 138] [] M = Rt (some (zI (M 138 18))) M := by
  refine Eq.trans (s_aloadn f_206_0 rfl) ?_
  refine Eq.trans (s_getI f_206_1 g_206_42 (by decide) kn_138) ?_
  exact s_iret f_206_4 t_206
theorem en_206 {d : Nat} (M : ZM) : E (d + 1) 206 [zR 138] M = Q d 206 0 [zR 138] [] M := e_in (Nat.le_of_ble_eq_true rfl)
-- DungeonBuilderModel.undo()I
theorem q_207_0 {d : Nat} (M : ZM) : Q d 207 0 [zR 138, zU] [] M = if (M 138 2) ≠ 0 then (Q d 207 22 [zR 138, zI 0] [] (zwr M 138 2 (zw ((M 138 2) - 1)))) else (Rt (some (zI (-104))) M) := by
  refine Eq.trans (s_aloadn f_207_0 rfl) ?_
  refine Eq.trans (s_getI f_207_1 g_207_76 (by decide) kn_138) ?_
  refine Eq.trans (s_if (P := (M 138 2) ≠ 0) 10 f_207_4 (by decide) rfl) (ite_cg (fun h1 => ?_) (fun h1 => ?_))
  · refine Eq.trans (s_aloadn f_207_10 rfl) ?_
    refine Eq.trans (s_dup f_207_11 rfl) ?_
    refine Eq.trans (s_getI f_207_12 g_207_76 (by decide) kn_138) ?_
    refine Eq.trans (s_iconst f_207_15) ?_
    refine Eq.trans (s_isub f_207_16) ?_
    refine Eq.trans (s_putI f_207_17 g_207_76 (by decide) kn_138) ?_
    refine Eq.trans (s_iconst f_207_20) ?_
    refine Eq.trans (s_istoren f_207_21 rfl) ?_
    rfl
  · refine Eq.trans (s_bipush f_207_7) ?_
    exact s_iret f_207_9 t_207
theorem q_207_22 {d : Nat} (v1 : Int) (M : ZM) : Q d 207 22 [zR 138, zI v1] [] M = if 124 ≤ v1 then (Rt (some (zI (M 138 2))) M) else (if 0 ≤ (zw ((zw (124 * (M 138 2))) + v1)) ∧ (zw ((zw (124 * (M 138 2))) + v1)) < 744 then if 0 ≤ v1 ∧ v1 < 124 then Q d 207 22 [zR 138, zI (zw (v1 + 1))] [] (zwr M 139 v1 (M 140 (zw ((zw (124 * (M 138 2))) + v1)))) else none else none) := by
  refine Eq.trans (s_iloadn f_207_22 rfl) ?_
  refine Eq.trans (s_bipush f_207_23) ?_
  refine Eq.trans (s_icmp (P := 124 ≤ v1) 54 f_207_25 (by decide) rfl) (ite_cg (fun h1 => ?_) (fun h1 => ?_))
  · refine Eq.trans (s_aloadn f_207_54 rfl) ?_
    refine Eq.trans (s_getI f_207_55 g_207_76 (by decide) kn_138) ?_
    exact s_iret f_207_58 t_207
  · refine Eq.trans (s_aloadn f_207_28 rfl) ?_
    refine Eq.trans (s_getR f_207_29 g_207_7 (by decide) kn_138 rf_138_0) ?_
    refine Eq.trans (s_iloadn f_207_32 rfl) ?_
    refine Eq.trans (s_aloadn f_207_33 rfl) ?_
    refine Eq.trans (s_getR f_207_34 g_207_13 (by decide) kn_138 rf_138_1) ?_
    refine Eq.trans (s_bipush f_207_37) ?_
    refine Eq.trans (s_aloadn f_207_39 rfl) ?_
    refine Eq.trans (s_getI f_207_40 g_207_76 (by decide) kn_138) ?_
    refine Eq.trans (s_imul f_207_43) ?_
    refine Eq.trans (s_iloadn f_207_44 rfl) ?_
    refine Eq.trans (s_iadd f_207_45) ?_
    refine Eq.trans (s_iald f_207_46 kn_140 ln_140) (gd_cg fun h2 => ?_)
    refine Eq.trans (s_iast f_207_47 kn_139 ln_139) (gd_cg fun h3 => ?_)
    refine Eq.trans (s_iinc f_207_48 rfl rfl) ?_
    refine Eq.trans (s_goto 22 f_207_51 (by decide)) ?_
    rfl
theorem en_207 {d : Nat} (M : ZM) : E (d + 1) 207 [zR 138] M = Q d 207 0 [zR 138, zU] [] M := e_in (Nat.le_of_ble_eq_true rfl)
-- DungeonBuilderModel.isCell(II)Z
theorem q_208_0 {d : Nat} (v0 v1 : Int) (M : ZM) : Q d 208 0 [zI v0, zI v1] [] M = Cb (E d 153 [zI v0, zI 0, zI 23] M) (fun v h => zrun (zevl d) 208 7 [zI v0, zI v1] (v.toList ++ []) h) := by
  refine Eq.trans (s_iloadn f_208_0 rfl) ?_
  refine Eq.trans (s_iconst f_208_1) ?_
  refine Eq.trans (s_bipush f_208_2) ?_
  exact s_call [zI v0, zI 0, zI 23] [] f_208_4 rfl c_208_58 rfl rfl (Nat.le_of_ble_eq_true rfl) rfl
theorem q_208_7 {d : Nat} (v0 v1 s0 : Int) (M : ZM) : Q d 208 7 [zI v0, zI v1] [zI s0] M = if s0 = 0 then (Rt (some (zI 0)) M) else (Cb (E d 153 [zI v1, zI 0, zI 15] M) (fun v h => zrun (zevl d) 208 17 [zI v0, zI v1] (v.toList ++ []) h)) := by
  refine Eq.trans (s_if (P := s0 = 0) 24 f_208_7 (by decide) rfl) (ite_cg (fun h1 => ?_) (fun h1 => ?_))
  · refine Eq.trans (s_iconst f_208_24) ?_
    exact s_zret f_208_25 t_208 (by decide)
  · refine Eq.trans (s_iloadn f_208_10 rfl) ?_
    refine Eq.trans (s_iconst f_208_11) ?_
    refine Eq.trans (s_bipush f_208_12) ?_
    exact s_call [zI v1, zI 0, zI 15] [] f_208_14 rfl c_208_58 rfl rfl (Nat.le_of_ble_eq_true rfl) rfl
theorem q_208_17 {d : Nat} (v0 v1 s0 : Int) (M : ZM) : Q d 208 17 [zI v0, zI v1] [zI s0] M = if s0 = 0 then (Rt (some (zI 0)) M) else (Rt (some (zI 1)) M) := by
  refine Eq.trans (s_if (P := s0 = 0) 24 f_208_17 (by decide) rfl) (ite_cg (fun h1 => ?_) (fun h1 => ?_))
  · refine Eq.trans (s_iconst f_208_24) ?_
    exact s_zret f_208_25 t_208 (by decide)
  · refine Eq.trans (s_iconst f_208_20) ?_
    refine Eq.trans (s_goto 25 f_208_21 (by decide)) ?_
    exact s_zret f_208_25 t_208 (by decide)
theorem en_208 {d : Nat} (v0 v1 : Int) (M : ZM) : E (d + 1) 208 [zI v0, zI v1] M = Q d 208 0 [zI v0, zI v1] [] M := e_in (Nat.le_of_ble_eq_true rfl)
-- DungeonBuilderModel.isFrom(III)Z
theorem q_209_0 {d : Nat} (v0 v1 v2 : Int) (M : ZM) : Q d 209 0 [zI v0, zI v1, zI v2] [] M = if v2 ≤ v1 then (Cb (E d 153 [zI v0, zI v2, zI v1] M) (fun v h => zrun (zevl d) 209 20 [zI v0, zI v1, zI v2] (v.toList ++ []) h)) else (Cb (E d 153 [zI v0, zI v1, zI v2] M) (fun v h => zrun (zevl d) 209 11 [zI v0, zI v1, zI v2] (v.toList ++ []) h)) := by
  refine Eq.trans (s_iloadn f_209_0 rfl) ?_
  refine Eq.trans (s_iloadn f_209_1 rfl) ?_
  refine Eq.trans (s_icmp (P := v2 ≤ v1) 14 f_209_2 (by decide) rfl) (ite_cg (fun h1 => ?_) (fun h1 => ?_))
  · refine Eq.trans (s_iloadn f_209_14 rfl) ?_
    refine Eq.trans (s_iloadn f_209_15 rfl) ?_
    refine Eq.trans (s_iloadn f_209_16 rfl) ?_
    exact s_call [zI v0, zI v2, zI v1] [] f_209_17 rfl c_209_58 rfl rfl (Nat.le_of_ble_eq_true rfl) rfl
  · refine Eq.trans (s_iloadn f_209_5 rfl) ?_
    refine Eq.trans (s_iloadn f_209_6 rfl) ?_
    refine Eq.trans (s_iloadn f_209_7 rfl) ?_
    exact s_call [zI v0, zI v1, zI v2] [] f_209_8 rfl c_209_58 rfl rfl (Nat.le_of_ble_eq_true rfl) rfl
theorem q_209_11 {d : Nat} (v0 v1 v2 s0 : Int) (M : ZM) : Q d 209 11 [zI v0, zI v1, zI v2] [zI s0] M = Q d 209 20 [zI v0, zI v1, zI v2] [zI s0] M := by
  refine Eq.trans (s_goto 20 f_209_11 (by decide)) ?_
  rfl
theorem q_209_20 {d : Nat} (v0 v1 v2 s0 : Int) (M : ZM) : Q d 209 20 [zI v0, zI v1, zI v2] [zI s0] M = if s0 = 0 ∨ s0 = 1 then Rt (some (zI s0)) M else none := by
  exact s_zretg f_209_20 t_209
theorem en_209 {d : Nat} (v0 v1 v2 : Int) (M : ZM) : E (d + 1) 209 [zI v0, zI v1, zI v2] M = Q d 209 0 [zI v0, zI v1, zI v2] [] M := e_in (Nat.le_of_ble_eq_true rfl)
-- DungeonBuilderModel.has(III)Z
theorem q_210_0 {d : Nat} (v1 v2 v3 : Int) (M : ZM) : Q d 210 0 [zR 138, zI v1, zI v2, zI v3, zU, zU, zU, zU] [] M = Cb (E d 157 [zR 138, zI v1, zI 0] M) (fun v h => zrun (zevl d) 210 6 [zR 138, zI v1, zI v2, zI v3, zU, zU, zU, zU] (v.toList ++ []) h) := by
  refine Eq.trans (s_aloadn f_210_0 rfl) ?_
  refine Eq.trans (s_iloadn f_210_1 rfl) ?_
  refine Eq.trans (s_iconst f_210_2) ?_
  exact s_call [zR 138, zI v1, zI 0] [] f_210_3 rfl c_210_85 rfl rfl (Nat.le_of_ble_eq_true rfl) (by show (zkn SH 138 == zown 157) = true; rw [show zkn SH 138 = 10 from kn_138]; rfl)
theorem q_210_6 {d : Nat} (v1 v2 v3 s0 : Int) (M : ZM) : Q d 210 6 [zR 138, zI v1, zI v2, zI v3, zU, zU, zU, zU] [zI s0] M = Cb (E d 157 [zR 138, zI v1, zI 1] M) (fun v h => zrun (zevl d) 210 14 [zR 138, zI v1, zI v2, zI v3, zI s0, zU, zU, zU] (v.toList ++ []) h) := by
  refine Eq.trans (s_istore f_210_6 rfl) ?_
  refine Eq.trans (s_aloadn f_210_8 rfl) ?_
  refine Eq.trans (s_iloadn f_210_9 rfl) ?_
  refine Eq.trans (s_iconst f_210_10) ?_
  exact s_call [zR 138, zI v1, zI 1] [] f_210_11 rfl c_210_85 rfl rfl (Nat.le_of_ble_eq_true rfl) (by show (zkn SH 138 == zown 157) = true; rw [show zkn SH 138 = 10 from kn_138]; rfl)
theorem q_210_14 {d : Nat} (v1 v2 v3 v4 s0 : Int) (M : ZM) : Q d 210 14 [zR 138, zI v1, zI v2, zI v3, zI v4, zU, zU, zU] [zI s0] M = Cb (E d 158 [zR 138, zI v4] M) (fun v h => zrun (zevl d) 210 23 [zR 138, zI v1, zI v2, zI v3, zI v4, zI s0, zU, zU] (v.toList ++ [zI v2]) h) := by
  refine Eq.trans (s_istore f_210_14 rfl) ?_
  refine Eq.trans (s_iloadn f_210_16 rfl) ?_
  refine Eq.trans (s_aloadn f_210_17 rfl) ?_
  refine Eq.trans (s_iload f_210_18 rfl) ?_
  exact s_call [zR 138, zI v4] [zI v2] f_210_20 rfl c_210_66 rfl rfl (Nat.le_of_ble_eq_true rfl) (by show (zkn SH 138 == zown 158) = true; rw [show zkn SH 138 = 10 from kn_138]; rfl)
theorem q_210_23 {d : Nat} (v1 v2 v3 v4 v5 s0 s1 : Int) (M : ZM) : Q d 210 23 [zR 138, zI v1, zI v2, zI v3, zI v4, zI v5, zU, zU] [zI s1, zI s0] M = Cb (E d 158 [zR 138, zI v5] M) (fun v h => zrun (zevl d) 210 29 [zR 138, zI v1, zI v2, zI v3, zI v4, zI v5, zU, zU] (v.toList ++ [zI s1, zI s0]) h) := by
  refine Eq.trans (s_aloadn f_210_23 rfl) ?_
  refine Eq.trans (s_iload f_210_24 rfl) ?_
  exact s_call [zR 138, zI v5] [zI s1, zI s0] f_210_26 rfl c_210_66 rfl rfl (Nat.le_of_ble_eq_true rfl) (by show (zkn SH 138 == zown 158) = true; rw [show zkn SH 138 = 10 from kn_138]; rfl)
theorem q_210_29 {d : Nat} (v1 v2 v3 v4 v5 s0 s1 s2 : Int) (M : ZM) : Q d 210 29 [zR 138, zI v1, zI v2, zI v3, zI v4, zI v5, zU, zU] [zI s2, zI s1, zI s0] M = Cb (E d 209 [zI s0, zI s1, zI s2] M) (fun v h => zrun (zevl d) 210 32 [zR 138, zI v1, zI v2, zI v3, zI v4, zI v5, zU, zU] (v.toList ++ []) h) := by
  exact s_call [zI s0, zI s1, zI s2] [] f_210_29 rfl c_210_214 rfl rfl (Nat.le_of_ble_eq_true rfl) rfl
theorem q_210_32 {d : Nat} (v1 v2 v3 v4 v5 s0 : Int) (M : ZM) : Q d 210 32 [zR 138, zI v1, zI v2, zI v3, zI v4, zI v5, zU, zU] [zI s0] M = if s0 = 0 then (Cb (E d 159 [zR 138, zI v4] M) (fun v h => zrun (zevl d) 210 74 [zR 138, zI v1, zI v2, zI v3, zI v4, zI v5, zI 0, zU] (v.toList ++ [zI v3]) h)) else (if ((v1).tmod 2) ≠ 0 then (Cb (E d 159 [zR 138, zI v5] M) (fun v h => zrun (zevl d) 210 57 [zR 138, zI v1, zI v2, zI v3, zI v4, zI v5, zU, zU] (v.toList ++ [zI v3]) h)) else (Cb (E d 159 [zR 138, zI v4] M) (fun v h => zrun (zevl d) 210 48 [zR 138, zI v1, zI v2, zI v3, zI v4, zI v5, zU, zU] (v.toList ++ [zI v3]) h))) := by
  refine Eq.trans (s_if (P := s0 = 0) 64 f_210_32 (by decide) rfl) (ite_cg (fun h1 => ?_) (fun h1 => ?_))
  · refine Eq.trans (s_iconst f_210_64) ?_
    refine Eq.trans (s_istore f_210_65 rfl) ?_
    refine Eq.trans (s_iloadn f_210_67 rfl) ?_
    refine Eq.trans (s_aloadn f_210_68 rfl) ?_
    refine Eq.trans (s_iload f_210_69 rfl) ?_
    exact s_call [zR 138, zI v4] [zI v3] f_210_71 rfl c_210_73 rfl rfl (Nat.le_of_ble_eq_true rfl) (by show (zkn SH 138 == zown 159) = true; rw [show zkn SH 138 = 10 from kn_138]; rfl)
  · refine Eq.trans (s_iloadn f_210_35 rfl) ?_
    refine Eq.trans (s_iloadn f_210_36 rfl) ?_
    refine Eq.trans (s_iconst f_210_37) ?_
    refine Eq.trans (s_irem f_210_38) (Eq.trans (if_pos (by decide)) ?_)
    refine Eq.trans (s_if (P := ((v1).tmod 2) ≠ 0) 51 f_210_39 (by decide) rfl) (ite_cg (fun h2 => ?_) (fun h2 => ?_))
    · refine Eq.trans (s_aloadn f_210_51 rfl) ?_
      refine Eq.trans (s_iload f_210_52 rfl) ?_
      exact s_call [zR 138, zI v5] [zI v3] f_210_54 rfl c_210_73 rfl rfl (Nat.le_of_ble_eq_true rfl) (by show (zkn SH 138 == zown 159) = true; rw [show zkn SH 138 = 10 from kn_138]; rfl)
    · refine Eq.trans (s_aloadn f_210_42 rfl) ?_
      refine Eq.trans (s_iload f_210_43 rfl) ?_
      exact s_call [zR 138, zI v4] [zI v3] f_210_45 rfl c_210_73 rfl rfl (Nat.le_of_ble_eq_true rfl) (by show (zkn SH 138 == zown 159) = true; rw [show zkn SH 138 = 10 from kn_138]; rfl)
theorem q_210_48 {d : Nat} (v1 v2 v3 v4 v5 s0 s1 : Int) (M : ZM) : Q d 210 48 [zR 138, zI v1, zI v2, zI v3, zI v4, zI v5, zU, zU] [zI s1, zI s0] M = Q d 210 57 [zR 138, zI v1, zI v2, zI v3, zI v4, zI v5, zU, zU] [zI s1, zI s0] M := by
  refine Eq.trans (s_goto 57 f_210_48 (by decide)) ?_
  rfl
theorem q_210_57 {d : Nat} (v1 v2 v3 v4 v5 s0 s1 : Int) (M : ZM) : Q d 210 57 [zR 138, zI v1, zI v2, zI v3, zI v4, zI v5, zU, zU] [zI s1, zI s0] M = if s0 ≠ s1 then (Cb (E d 159 [zR 138, zI v4] M) (fun v h => zrun (zevl d) 210 74 [zR 138, zI v1, zI v2, zI v3, zI v4, zI v5, zI 0, zU] (v.toList ++ [zI v3]) h)) else (Cb (E d 159 [zR 138, zI v4] M) (fun v h => zrun (zevl d) 210 74 [zR 138, zI v1, zI v2, zI v3, zI v4, zI v5, zI 1, zU] (v.toList ++ [zI v3]) h)) := by
  refine Eq.trans (s_icmp (P := s0 ≠ s1) 64 f_210_57 (by decide) rfl) (ite_cg (fun h1 => ?_) (fun h1 => ?_))
  · refine Eq.trans (s_iconst f_210_64) ?_
    refine Eq.trans (s_istore f_210_65 rfl) ?_
    refine Eq.trans (s_iloadn f_210_67 rfl) ?_
    refine Eq.trans (s_aloadn f_210_68 rfl) ?_
    refine Eq.trans (s_iload f_210_69 rfl) ?_
    exact s_call [zR 138, zI v4] [zI v3] f_210_71 rfl c_210_73 rfl rfl (Nat.le_of_ble_eq_true rfl) (by show (zkn SH 138 == zown 159) = true; rw [show zkn SH 138 = 10 from kn_138]; rfl)
  · refine Eq.trans (s_iconst f_210_60) ?_
    refine Eq.trans (s_goto 65 f_210_61 (by decide)) ?_
    refine Eq.trans (s_istore f_210_65 rfl) ?_
    refine Eq.trans (s_iloadn f_210_67 rfl) ?_
    refine Eq.trans (s_aloadn f_210_68 rfl) ?_
    refine Eq.trans (s_iload f_210_69 rfl) ?_
    exact s_call [zR 138, zI v4] [zI v3] f_210_71 rfl c_210_73 rfl rfl (Nat.le_of_ble_eq_true rfl) (by show (zkn SH 138 == zown 159) = true; rw [show zkn SH 138 = 10 from kn_138]; rfl)
theorem q_210_74 {d : Nat} (v1 v2 v3 v4 v5 v6 s0 s1 : Int) (M : ZM) : Q d 210 74 [zR 138, zI v1, zI v2, zI v3, zI v4, zI v5, zI v6, zU] [zI s1, zI s0] M = Cb (E d 159 [zR 138, zI v5] M) (fun v h => zrun (zevl d) 210 80 [zR 138, zI v1, zI v2, zI v3, zI v4, zI v5, zI v6, zU] (v.toList ++ [zI s1, zI s0]) h) := by
  refine Eq.trans (s_aloadn f_210_74 rfl) ?_
  refine Eq.trans (s_iload f_210_75 rfl) ?_
  exact s_call [zR 138, zI v5] [zI s1, zI s0] f_210_77 rfl c_210_73 rfl rfl (Nat.le_of_ble_eq_true rfl) (by show (zkn SH 138 == zown 159) = true; rw [show zkn SH 138 = 10 from kn_138]; rfl)
theorem q_210_80 {d : Nat} (v1 v2 v3 v4 v5 v6 s0 s1 s2 : Int) (M : ZM) : Q d 210 80 [zR 138, zI v1, zI v2, zI v3, zI v4, zI v5, zI v6, zU] [zI s2, zI s1, zI s0] M = Cb (E d 209 [zI s0, zI s1, zI s2] M) (fun v h => zrun (zevl d) 210 83 [zR 138, zI v1, zI v2, zI v3, zI v4, zI v5, zI v6, zU] (v.toList ++ []) h) := by
  exact s_call [zI s0, zI s1, zI s2] [] f_210_80 rfl c_210_214 rfl rfl (Nat.le_of_ble_eq_true rfl) rfl
theorem q_210_83 {d : Nat} (v1 v2 v3 v4 v5 v6 s0 : Int) (M : ZM) : Q d 210 83 [zR 138, zI v1, zI v2, zI v3, zI v4, zI v5, zI v6, zU] [zI s0] M = if s0 = 0 then (if v6 ≠ 0 then (Cb (E d 165 [zR 138, zI v2, zI v3] M) (fun v h => zrun (zevl d) 210 134 [zR 138, zI v1, zI v2, zI v3, zI v4, zI v5, zI v6, zI 0] (v.toList ++ []) h)) else (Rt (some (zI 0)) M)) else (if ((v1).tmod 2) ≠ 0 then (Cb (E d 158 [zR 138, zI v4] M) (fun v h => zrun (zevl d) 210 108 [zR 138, zI v1, zI v2, zI v3, zI v4, zI v5, zI v6, zU] (v.toList ++ [zI v2]) h)) else (Cb (E d 158 [zR 138, zI v5] M) (fun v h => zrun (zevl d) 210 99 [zR 138, zI v1, zI v2, zI v3, zI v4, zI v5, zI v6, zU] (v.toList ++ [zI v2]) h))) := by
  refine Eq.trans (s_if (P := s0 = 0) 115 f_210_83 (by decide) rfl) (ite_cg (fun h1 => ?_) (fun h1 => ?_))
  · refine Eq.trans (s_iconst f_210_115) ?_
    refine Eq.trans (s_istore f_210_116 rfl) ?_
    refine Eq.trans (s_iload f_210_118 rfl) ?_
    refine Eq.trans (s_if (P := v6 ≠ 0) 128 f_210_120 (by decide) rfl) (ite_cg (fun h2 => ?_) (fun h2 => ?_))
    · refine Eq.trans (s_aloadn f_210_128 rfl) ?_
      refine Eq.trans (s_iloadn f_210_129 rfl) ?_
      refine Eq.trans (s_iloadn f_210_130 rfl) ?_
      exact s_call [zR 138, zI v2, zI v3] [] f_210_131 rfl c_210_82 rfl rfl (Nat.le_of_ble_eq_true rfl) (by show (zkn SH 138 == zown 165) = true; rw [show zkn SH 138 = 10 from kn_138]; rfl)
    · refine Eq.trans (s_iload f_210_123 rfl) ?_
      refine Eq.trans (s_if (P := 0 = 0) 142 f_210_125 (by decide) rfl) (Eq.trans (if_pos (by decide)) ?_)
      refine Eq.trans (s_iconst f_210_142) ?_
      exact s_zret f_210_143 t_210 (by decide)
  · refine Eq.trans (s_iloadn f_210_86 rfl) ?_
    refine Eq.trans (s_iloadn f_210_87 rfl) ?_
    refine Eq.trans (s_iconst f_210_88) ?_
    refine Eq.trans (s_irem f_210_89) (Eq.trans (if_pos (by decide)) ?_)
    refine Eq.trans (s_if (P := ((v1).tmod 2) ≠ 0) 102 f_210_90 (by decide) rfl) (ite_cg (fun h3 => ?_) (fun h3 => ?_))
    · refine Eq.trans (s_aloadn f_210_102 rfl) ?_
      refine Eq.trans (s_iload f_210_103 rfl) ?_
      exact s_call [zR 138, zI v4] [zI v2] f_210_105 rfl c_210_66 rfl rfl (Nat.le_of_ble_eq_true rfl) (by show (zkn SH 138 == zown 158) = true; rw [show zkn SH 138 = 10 from kn_138]; rfl)
    · refine Eq.trans (s_aloadn f_210_93 rfl) ?_
      refine Eq.trans (s_iload f_210_94 rfl) ?_
      exact s_call [zR 138, zI v5] [zI v2] f_210_96 rfl c_210_66 rfl rfl (Nat.le_of_ble_eq_true rfl) (by show (zkn SH 138 == zown 158) = true; rw [show zkn SH 138 = 10 from kn_138]; rfl)
theorem q_210_99 {d : Nat} (v1 v2 v3 v4 v5 v6 s0 s1 : Int) (M : ZM) : Q d 210 99 [zR 138, zI v1, zI v2, zI v3, zI v4, zI v5, zI v6, zU] [zI s1, zI s0] M = Q d 210 108 [zR 138, zI v1, zI v2, zI v3, zI v4, zI v5, zI v6, zU] [zI s1, zI s0] M := by
  refine Eq.trans (s_goto 108 f_210_99 (by decide)) ?_
  rfl
theorem q_210_108 {d : Nat} (v1 v2 v3 v4 v5 v6 s0 s1 : Int) (M : ZM) : Q d 210 108 [zR 138, zI v1, zI v2, zI v3, zI v4, zI v5, zI v6, zU] [zI s1, zI s0] M = if s0 ≠ s1 then (if v6 ≠ 0 then (Cb (E d 165 [zR 138, zI v2, zI v3] M) (fun v h => zrun (zevl d) 210 134 [zR 138, zI v1, zI v2, zI v3, zI v4, zI v5, zI v6, zI 0] (v.toList ++ []) h)) else (Rt (some (zI 0)) M)) else (if v6 ≠ 0 then (Cb (E d 165 [zR 138, zI v2, zI v3] M) (fun v h => zrun (zevl d) 210 134 [zR 138, zI v1, zI v2, zI v3, zI v4, zI v5, zI v6, zI 1] (v.toList ++ []) h)) else (Cb (E d 165 [zR 138, zI v2, zI v3] M) (fun v h => zrun (zevl d) 210 134 [zR 138, zI v1, zI v2, zI v3, zI v4, zI v5, zI v6, zI 1] (v.toList ++ []) h))) := by
  refine Eq.trans (s_icmp (P := s0 ≠ s1) 115 f_210_108 (by decide) rfl) (ite_cg (fun h1 => ?_) (fun h1 => ?_))
  · refine Eq.trans (s_iconst f_210_115) ?_
    refine Eq.trans (s_istore f_210_116 rfl) ?_
    refine Eq.trans (s_iload f_210_118 rfl) ?_
    refine Eq.trans (s_if (P := v6 ≠ 0) 128 f_210_120 (by decide) rfl) (ite_cg (fun h2 => ?_) (fun h2 => ?_))
    · refine Eq.trans (s_aloadn f_210_128 rfl) ?_
      refine Eq.trans (s_iloadn f_210_129 rfl) ?_
      refine Eq.trans (s_iloadn f_210_130 rfl) ?_
      exact s_call [zR 138, zI v2, zI v3] [] f_210_131 rfl c_210_82 rfl rfl (Nat.le_of_ble_eq_true rfl) (by show (zkn SH 138 == zown 165) = true; rw [show zkn SH 138 = 10 from kn_138]; rfl)
    · refine Eq.trans (s_iload f_210_123 rfl) ?_
      refine Eq.trans (s_if (P := 0 = 0) 142 f_210_125 (by decide) rfl) (Eq.trans (if_pos (by decide)) ?_)
      refine Eq.trans (s_iconst f_210_142) ?_
      exact s_zret f_210_143 t_210 (by decide)
  · refine Eq.trans (s_iconst f_210_111) ?_
    refine Eq.trans (s_goto 116 f_210_112 (by decide)) ?_
    refine Eq.trans (s_istore f_210_116 rfl) ?_
    refine Eq.trans (s_iload f_210_118 rfl) ?_
    refine Eq.trans (s_if (P := v6 ≠ 0) 128 f_210_120 (by decide) rfl) (ite_cg (fun h3 => ?_) (fun h3 => ?_))
    · refine Eq.trans (s_aloadn f_210_128 rfl) ?_
      refine Eq.trans (s_iloadn f_210_129 rfl) ?_
      refine Eq.trans (s_iloadn f_210_130 rfl) ?_
      exact s_call [zR 138, zI v2, zI v3] [] f_210_131 rfl c_210_82 rfl rfl (Nat.le_of_ble_eq_true rfl) (by show (zkn SH 138 == zown 165) = true; rw [show zkn SH 138 = 10 from kn_138]; rfl)
    · refine Eq.trans (s_iload f_210_123 rfl) ?_
      refine Eq.trans (s_if (P := 1 = 0) 142 f_210_125 (by decide) rfl) (Eq.trans (if_neg (by decide)) ?_)
      refine Eq.trans (s_aloadn f_210_128 rfl) ?_
      refine Eq.trans (s_iloadn f_210_129 rfl) ?_
      refine Eq.trans (s_iloadn f_210_130 rfl) ?_
      exact s_call [zR 138, zI v2, zI v3] [] f_210_131 rfl c_210_82 rfl rfl (Nat.le_of_ble_eq_true rfl) (by show (zkn SH 138 == zown 165) = true; rw [show zkn SH 138 = 10 from kn_138]; rfl)
theorem q_210_134 {d : Nat} (v1 v2 v3 v4 v5 v6 v7 s0 : Int) (M : ZM) : Q d 210 134 [zR 138, zI v1, zI v2, zI v3, zI v4, zI v5, zI v6, zI v7] [zI s0] M = if s0 ≠ (-1) then (Rt (some (zI 0)) M) else (Rt (some (zI 1)) M) := by
  refine Eq.trans (s_iconst f_210_134) ?_
  refine Eq.trans (s_icmp (P := s0 ≠ (-1)) 142 f_210_135 (by decide) rfl) (ite_cg (fun h1 => ?_) (fun h1 => ?_))
  · refine Eq.trans (s_iconst f_210_142) ?_
    exact s_zret f_210_143 t_210 (by decide)
  · refine Eq.trans (s_iconst f_210_138) ?_
    refine Eq.trans (s_goto 143 f_210_139 (by decide)) ?_
    exact s_zret f_210_143 t_210 (by decide)
theorem en_210 {d : Nat} (v1 v2 v3 : Int) (M : ZM) : E (d + 1) 210 [zR 138, zI v1, zI v2, zI v3] M = Q d 210 0 [zR 138, zI v1, zI v2, zI v3, zU, zU, zU, zU] [] M := e_in (Nat.le_of_ble_eq_true rfl)
-- DungeonBuilderModel.corridorAt(IIZ)I
theorem q_211_0 {d : Nat} (v1 v2 v3 : Int) (M : ZM) : Q d 211 0 [zR 138, zI v1, zI v2, zI v3, zU] [] M = Q d 211 3 [zR 138, zI v1, zI v2, zI v3, zI 0] [] M := by
  refine Eq.trans (s_iconst f_211_0) ?_
  refine Eq.trans (s_istore f_211_1 rfl) ?_
  rfl
theorem q_211_3 {d : Nat} (v1 v2 v3 v4 : Int) (M : ZM) : Q d 211 3 [zR 138, zI v1, zI v2, zI v3, zI v4] [] M = if (M 139 121) ≤ v4 then (Rt (some (zI (-1))) M) else (Cb (E d 210 [zR 138, zI v4, zI v1, zI v2] M) (fun v h => zrun (zevl d) 211 23 [zR 138, zI v1, zI v2, zI v3, zI v4] (v.toList ++ []) h)) := by
  refine Eq.trans (s_iload f_211_3 rfl) ?_
  refine Eq.trans (s_aloadn f_211_5 rfl) ?_
  refine Eq.trans (s_getR f_211_6 g_211_7 (by decide) kn_138 rf_138_0) ?_
  refine Eq.trans (s_bipush f_211_9) ?_
  refine Eq.trans (s_iald f_211_11 kn_139 ln_139) (Eq.trans (if_pos (by decide)) ?_)
  refine Eq.trans (s_icmp (P := (M 139 121) ≤ v4) 49 f_211_12 (by decide) rfl) (ite_cg (fun h1 => ?_) (fun h1 => ?_))
  · refine Eq.trans (s_iconst f_211_49) ?_
    exact s_iret f_211_50 t_211
  · refine Eq.trans (s_aloadn f_211_15 rfl) ?_
    refine Eq.trans (s_iload f_211_16 rfl) ?_
    refine Eq.trans (s_iloadn f_211_18 rfl) ?_
    refine Eq.trans (s_iloadn f_211_19 rfl) ?_
    exact s_call [zR 138, zI v4, zI v1, zI v2] [] f_211_20 rfl c_211_217 rfl rfl (Nat.le_of_ble_eq_true rfl) (by show (zkn SH 138 == zown 210) = true; rw [show zkn SH 138 = 10 from kn_138]; rfl)
theorem q_211_23 {d : Nat} (v1 v2 v3 v4 s0 : Int) (M : ZM) : Q d 211 23 [zR 138, zI v1, zI v2, zI v3, zI v4] [zI s0] M = if s0 = 0 then (Q d 211 3 [zR 138, zI v1, zI v2, zI v3, zI (zw (v4 + 1))] [] M) else (if v3 = 0 then (Rt (some (zI v4)) M) else (Cb (E d 157 [zR 138, zI v4, zI 2] M) (fun v h => zrun (zevl d) 211 37 [zR 138, zI v1, zI v2, zI v3, zI v4] (v.toList ++ []) h))) := by
  refine Eq.trans (s_if (P := s0 = 0) 43 f_211_23 (by decide) rfl) (ite_cg (fun h1 => ?_) (fun h1 => ?_))
  · refine Eq.trans (s_iinc f_211_43 rfl rfl) ?_
    refine Eq.trans (s_goto 3 f_211_46 (by decide)) ?_
    rfl
  · refine Eq.trans (s_iloadn f_211_26 rfl) ?_
    refine Eq.trans (s_if (P := v3 = 0) 40 f_211_27 (by decide) rfl) (ite_cg (fun h2 => ?_) (fun h2 => ?_))
    · refine Eq.trans (s_iload f_211_40 rfl) ?_
      exact s_iret f_211_42 t_211
    · refine Eq.trans (s_aloadn f_211_30 rfl) ?_
      refine Eq.trans (s_iload f_211_31 rfl) ?_
      refine Eq.trans (s_iconst f_211_33) ?_
      exact s_call [zR 138, zI v4, zI 2] [] f_211_34 rfl c_211_85 rfl rfl (Nat.le_of_ble_eq_true rfl) (by show (zkn SH 138 == zown 157) = true; rw [show zkn SH 138 = 10 from kn_138]; rfl)
theorem q_211_37 {d : Nat} (v1 v2 v3 v4 s0 : Int) (M : ZM) : Q d 211 37 [zR 138, zI v1, zI v2, zI v3, zI v4] [zI s0] M = if s0 < 0 then (Q d 211 3 [zR 138, zI v1, zI v2, zI v3, zI (zw (v4 + 1))] [] M) else (Rt (some (zI v4)) M) := by
  refine Eq.trans (s_if (P := s0 < 0) 43 f_211_37 (by decide) rfl) (ite_cg (fun h1 => ?_) (fun h1 => ?_))
  · refine Eq.trans (s_iinc f_211_43 rfl rfl) ?_
    refine Eq.trans (s_goto 3 f_211_46 (by decide)) ?_
    rfl
  · refine Eq.trans (s_iload f_211_40 rfl) ?_
    exact s_iret f_211_42 t_211
theorem en_211 {d : Nat} (v1 v2 v3 : Int) (M : ZM) : E (d + 1) 211 [zR 138, zI v1, zI v2, zI v3] M = Q d 211 0 [zR 138, zI v1, zI v2, zI v3, zU] [] M := e_in (Nat.le_of_ble_eq_true rfl)
-- DungeonBuilderModel.cellsOf(I)I
theorem q_212_0 {d : Nat} (v1 : Int) (M : ZM) : Q d 212 0 [zR 138, zI v1, zU, zU] [] M = Q d 212 4 [zR 138, zI v1, zI 0, zI 0] [] M := by
  refine Eq.trans (s_iconst f_212_0) ?_
  refine Eq.trans (s_istoren f_212_1 rfl) ?_
  refine Eq.trans (s_iconst f_212_2) ?_
  refine Eq.trans (s_istoren f_212_3 rfl) ?_
  rfl
theorem q_212_4 {d : Nat} (v1 v2 v3 : Int) (M : ZM) : Q d 212 4 [zR 138, zI v1, zI v2, zI v3] [] M = if 384 ≤ v3 then (Rt (some (zI v2)) M) else (Cb (E d 210 [zR 138, zI v1, zI ((v3).tmod 24), zI (zw ((v3).tdiv 24))] M) (fun v h => zrun (zevl d) 212 25 [zR 138, zI v1, zI v2, zI v3] (v.toList ++ [zI v2]) h)) := by
  refine Eq.trans (s_iloadn f_212_4 rfl) ?_
  refine Eq.trans (s_sipush f_212_5) ?_
  refine Eq.trans (s_icmp (P := 384 ≤ v3) 41 f_212_8 (by decide) rfl) (ite_cg (fun h1 => ?_) (fun h1 => ?_))
  · refine Eq.trans (s_iloadn f_212_41 rfl) ?_
    exact s_iret f_212_42 t_212
  · refine Eq.trans (s_iloadn f_212_11 rfl) ?_
    refine Eq.trans (s_aloadn f_212_12 rfl) ?_
    refine Eq.trans (s_iloadn f_212_13 rfl) ?_
    refine Eq.trans (s_iloadn f_212_14 rfl) ?_
    refine Eq.trans (s_bipush f_212_15) ?_
    refine Eq.trans (s_irem f_212_17) (Eq.trans (if_pos (by decide)) ?_)
    refine Eq.trans (s_iloadn f_212_18 rfl) ?_
    refine Eq.trans (s_bipush f_212_19) ?_
    refine Eq.trans (s_idiv f_212_21) (Eq.trans (if_pos (by decide)) ?_)
    exact s_call [zR 138, zI v1, zI ((v3).tmod 24), zI (zw ((v3).tdiv 24))] [zI v2] f_212_22 rfl c_212_217 rfl rfl (Nat.le_of_ble_eq_true rfl) (by show (zkn SH 138 == zown 210) = true; rw [show zkn SH 138 = 10 from kn_138]; rfl)
theorem q_212_25 {d : Nat} (v1 v2 v3 s0 s1 : Int) (M : ZM) : Q d 212 25 [zR 138, zI v1, zI v2, zI v3] [zI s1, zI s0] M = if s1 = 0 then (Q d 212 4 [zR 138, zI v1, zI (zw (s0 + 0)), zI (zw (v3 + 1))] [] M) else (Q d 212 4 [zR 138, zI v1, zI (zw (s0 + 1)), zI (zw (v3 + 1))] [] M) := by
  refine Eq.trans (s_if (P := s1 = 0) 32 f_212_25 (by decide) rfl) (ite_cg (fun h1 => ?_) (fun h1 => ?_))
  · refine Eq.trans (s_iconst f_212_32) ?_
    refine Eq.trans (s_iadd f_212_33) ?_
    refine Eq.trans (s_istoren f_212_34 rfl) ?_
    refine Eq.trans (s_iinc f_212_35 rfl rfl) ?_
    refine Eq.trans (s_goto 4 f_212_38 (by decide)) ?_
    rfl
  · refine Eq.trans (s_iconst f_212_28) ?_
    refine Eq.trans (s_goto 33 f_212_29 (by decide)) ?_
    refine Eq.trans (s_iadd f_212_33) ?_
    refine Eq.trans (s_istoren f_212_34 rfl) ?_
    refine Eq.trans (s_iinc f_212_35 rfl rfl) ?_
    refine Eq.trans (s_goto 4 f_212_38 (by decide)) ?_
    rfl
theorem en_212 {d : Nat} (v1 : Int) (M : ZM) : E (d + 1) 212 [zR 138, zI v1] M = Q d 212 0 [zR 138, zI v1, zU, zU] [] M := e_in (Nat.le_of_ble_eq_true rfl)
-- DungeonBuilderModel.cell(II)I
theorem q_213_0 {d : Nat} (v1 v2 : Int) (M : ZM) : Q d 213 0 [zR 138, zI v1, zI v2, zU, zU] [] M = Cb (E d 208 [zI v1, zI v2] M) (fun v h => zrun (zevl d) 213 5 [zR 138, zI v1, zI v2, zU, zU] (v.toList ++ []) h) := by
  refine Eq.trans (s_iloadn f_213_0 rfl) ?_
  refine Eq.trans (s_iloadn f_213_1 rfl) ?_
  exact s_call [zI v1, zI v2] [] f_213_2 rfl c_213_220 rfl rfl (Nat.le_of_ble_eq_true rfl) rfl
theorem q_213_5 {d : Nat} (v1 v2 s0 : Int) (M : ZM) : Q d 213 5 [zR 138, zI v1, zI v2, zU, zU] [zI s0] M = if s0 ≠ 0 then (Cb (E d 165 [zR 138, zI v1, zI v2] M) (fun v h => zrun (zevl d) 213 17 [zR 138, zI v1, zI v2, zU, zU] (v.toList ++ []) h)) else (Rt (some (zI (-101))) M) := by
  refine Eq.trans (s_if (P := s0 ≠ 0) 11 f_213_5 (by decide) rfl) (ite_cg (fun h1 => ?_) (fun h1 => ?_))
  · refine Eq.trans (s_aloadn f_213_11 rfl) ?_
    refine Eq.trans (s_iloadn f_213_12 rfl) ?_
    refine Eq.trans (s_iloadn f_213_13 rfl) ?_
    exact s_call [zR 138, zI v1, zI v2] [] f_213_14 rfl c_213_82 rfl rfl (Nat.le_of_ble_eq_true rfl) (by show (zkn SH 138 == zown 165) = true; rw [show zkn SH 138 = 10 from kn_138]; rfl)
  · refine Eq.trans (s_bipush f_213_8) ?_
    exact s_iret f_213_10 t_213
theorem q_213_17 {d : Nat} (v1 v2 s0 : Int) (M : ZM) : Q d 213 17 [zR 138, zI v1, zI v2, zU, zU] [zI s0] M = Cb (E d 211 [zR 138, zI v1, zI v2, zI 0] M) (fun v h => zrun (zevl d) 213 25 [zR 138, zI v1, zI v2, zI s0, zU] (v.toList ++ []) h) := by
  refine Eq.trans (s_istoren f_213_17 rfl) ?_
  refine Eq.trans (s_aloadn f_213_18 rfl) ?_
  refine Eq.trans (s_iloadn f_213_19 rfl) ?_
  refine Eq.trans (s_iloadn f_213_20 rfl) ?_
  refine Eq.trans (s_iconst f_213_21) ?_
  exact s_call [zR 138, zI v1, zI v2, zI 0] [] f_213_22 rfl c_213_224 rfl rfl (Nat.le_of_ble_eq_true rfl) (by show (zkn SH 138 == zown 211) = true; rw [show zkn SH 138 = 10 from kn_138]; rfl)
theorem q_213_25 {d : Nat} (v1 v2 v3 s0 : Int) (M : ZM) : Q d 213 25 [zR 138, zI v1, zI v2, zI v3, zU] [zI s0] M = if v3 < 0 then (if s0 < 0 then (Rt (some (zI (-104))) M) else (Rt (some (zI (zw (20 + s0)))) M)) else (Rt (some (zI v3)) M) := by
  refine Eq.trans (s_istore f_213_25 rfl) ?_
  refine Eq.trans (s_iloadn f_213_27 rfl) ?_
  refine Eq.trans (s_if (P := v3 < 0) 35 f_213_28 (by decide) rfl) (ite_cg (fun h1 => ?_) (fun h1 => ?_))
  · refine Eq.trans (s_iload f_213_35 rfl) ?_
    refine Eq.trans (s_if (P := s0 < 0) 48 f_213_37 (by decide) rfl) (ite_cg (fun h2 => ?_) (fun h2 => ?_))
    · refine Eq.trans (s_bipush f_213_48) ?_
      exact s_iret f_213_50 t_213
    · refine Eq.trans (s_bipush f_213_40) ?_
      refine Eq.trans (s_iload f_213_42 rfl) ?_
      refine Eq.trans (s_iadd f_213_44) ?_
      refine Eq.trans (s_goto 50 f_213_45 (by decide)) ?_
      exact s_iret f_213_50 t_213
  · refine Eq.trans (s_iloadn f_213_31 rfl) ?_
    refine Eq.trans (s_goto 50 f_213_32 (by decide)) ?_
    exact s_iret f_213_50 t_213
theorem en_213 {d : Nat} (v1 v2 : Int) (M : ZM) : E (d + 1) 213 [zR 138, zI v1, zI v2] M = Q d 213 0 [zR 138, zI v1, zI v2, zU, zU] [] M := e_in (Nat.le_of_ble_eq_true rfl)
-- DungeonBuilderModel.sign(II)I
theorem q_214_0 {d : Nat} (v1 v2 : Int) (M : ZM) : Q d 214 0 [zR 138, zI v1, zI v2, zU, zU] [] M = Cb (E d 208 [zI v1, zI v2] M) (fun v h => zrun (zevl d) 214 5 [zR 138, zI v1, zI v2, zU, zU] (v.toList ++ []) h) := by
  refine Eq.trans (s_iloadn f_214_0 rfl) ?_
  refine Eq.trans (s_iloadn f_214_1 rfl) ?_
  exact s_call [zI v1, zI v2] [] f_214_2 rfl c_214_220 rfl rfl (Nat.le_of_ble_eq_true rfl) rfl
theorem q_214_5 {d : Nat} (v1 v2 s0 : Int) (M : ZM) : Q d 214 5 [zR 138, zI v1, zI v2, zU, zU] [zI s0] M = if s0 ≠ 0 then (Cb (E d 165 [zR 138, zI v1, zI v2] M) (fun v h => zrun (zevl d) 214 17 [zR 138, zI v1, zI v2, zU, zU] (v.toList ++ []) h)) else (Rt (some (zI (-101))) M) := by
  refine Eq.trans (s_if (P := s0 ≠ 0) 11 f_214_5 (by decide) rfl) (ite_cg (fun h1 => ?_) (fun h1 => ?_))
  · refine Eq.trans (s_aloadn f_214_11 rfl) ?_
    refine Eq.trans (s_iloadn f_214_12 rfl) ?_
    refine Eq.trans (s_iloadn f_214_13 rfl) ?_
    exact s_call [zR 138, zI v1, zI v2] [] f_214_14 rfl c_214_82 rfl rfl (Nat.le_of_ble_eq_true rfl) (by show (zkn SH 138 == zown 165) = true; rw [show zkn SH 138 = 10 from kn_138]; rfl)
  · refine Eq.trans (s_bipush f_214_8) ?_
    exact s_iret f_214_10 t_214
theorem q_214_17 {d : Nat} (v1 v2 s0 : Int) (M : ZM) : Q d 214 17 [zR 138, zI v1, zI v2, zU, zU] [zI s0] M = if s0 < 0 then (Cb (E d 211 [zR 138, zI v1, zI v2, zI 1] M) (fun v h => zrun (zevl d) 214 104 [zR 138, zI v1, zI v2, zI s0, zU] (v.toList ++ []) h)) else (Cb (E d 158 [zR 138, zI s0] M) (fun v h => zrun (zevl d) 214 28 [zR 138, zI v1, zI v2, zI s0, zU] (v.toList ++ [zI v1]) h)) := by
  refine Eq.trans (s_istoren f_214_17 rfl) ?_
  refine Eq.trans (s_iloadn f_214_18 rfl) ?_
  refine Eq.trans (s_if (P := s0 < 0) 97 f_214_19 (by decide) rfl) (ite_cg (fun h1 => ?_) (fun h1 => ?_))
  · refine Eq.trans (s_aloadn f_214_97 rfl) ?_
    refine Eq.trans (s_iloadn f_214_98 rfl) ?_
    refine Eq.trans (s_iloadn f_214_99 rfl) ?_
    refine Eq.trans (s_iconst f_214_100) ?_
    exact s_call [zR 138, zI v1, zI v2, zI 1] [] f_214_101 rfl c_214_224 rfl rfl (Nat.le_of_ble_eq_true rfl) (by show (zkn SH 138 == zown 211) = true; rw [show zkn SH 138 = 10 from kn_138]; rfl)
  · refine Eq.trans (s_iloadn f_214_22 rfl) ?_
    refine Eq.trans (s_aloadn f_214_23 rfl) ?_
    refine Eq.trans (s_iloadn f_214_24 rfl) ?_
    exact s_call [zR 138, zI s0] [zI v1] f_214_25 rfl c_214_66 rfl rfl (Nat.le_of_ble_eq_true rfl) (by show (zkn SH 138 == zown 158) = true; rw [show zkn SH 138 = 10 from kn_138]; rfl)
theorem q_214_28 {d : Nat} (v1 v2 v3 s0 s1 : Int) (M : ZM) : Q d 214 28 [zR 138, zI v1, zI v2, zI v3, zU] [zI s1, zI s0] M = if s0 ≠ s1 then (Rt (some (zI 46)) M) else (Cb (E d 159 [zR 138, zI v3] M) (fun v h => zrun (zevl d) 214 37 [zR 138, zI v1, zI v2, zI v3, zU] (v.toList ++ [zI v2]) h)) := by
  refine Eq.trans (s_icmp (P := s0 ≠ s1) 44 f_214_28 (by decide) rfl) (ite_cg (fun h1 => ?_) (fun h1 => ?_))
  · refine Eq.trans (s_iconst f_214_44) ?_
    refine Eq.trans (s_istore f_214_45 rfl) ?_
    refine Eq.trans (s_iload f_214_47 rfl) ?_
    refine Eq.trans (s_if (P := 0 ≠ 0) 57 f_214_49 (by decide) rfl) (Eq.trans (if_neg (by decide)) ?_)
    refine Eq.trans (s_bipush f_214_52) ?_
    refine Eq.trans (s_goto 96 f_214_54 (by decide)) ?_
    exact s_iret f_214_96 t_214
  · refine Eq.trans (s_iloadn f_214_31 rfl) ?_
    refine Eq.trans (s_aloadn f_214_32 rfl) ?_
    refine Eq.trans (s_iloadn f_214_33 rfl) ?_
    exact s_call [zR 138, zI v3] [zI v2] f_214_34 rfl c_214_73 rfl rfl (Nat.le_of_ble_eq_true rfl) (by show (zkn SH 138 == zown 159) = true; rw [show zkn SH 138 = 10 from kn_138]; rfl)
theorem q_214_37 {d : Nat} (v1 v2 v3 s0 s1 : Int) (M : ZM) : Q d 214 37 [zR 138, zI v1, zI v2, zI v3, zU] [zI s1, zI s0] M = if s0 ≠ s1 then (Rt (some (zI 46)) M) else (if v3 ≠ (M 139 122) then (Cb (E d 156 [zR 138, zI v3, zI 4] M) (fun v h => zrun (zevl d) 214 79 [zR 138, zI v1, zI v2, zI v3, zI 1] (v.toList ++ []) h)) else (Rt (some (zI 62)) M)) := by
  refine Eq.trans (s_icmp (P := s0 ≠ s1) 44 f_214_37 (by decide) rfl) (ite_cg (fun h1 => ?_) (fun h1 => ?_))
  · refine Eq.trans (s_iconst f_214_44) ?_
    refine Eq.trans (s_istore f_214_45 rfl) ?_
    refine Eq.trans (s_iload f_214_47 rfl) ?_
    refine Eq.trans (s_if (P := 0 ≠ 0) 57 f_214_49 (by decide) rfl) (Eq.trans (if_neg (by decide)) ?_)
    refine Eq.trans (s_bipush f_214_52) ?_
    refine Eq.trans (s_goto 96 f_214_54 (by decide)) ?_
    exact s_iret f_214_96 t_214
  · refine Eq.trans (s_iconst f_214_40) ?_
    refine Eq.trans (s_goto 45 f_214_41 (by decide)) ?_
    refine Eq.trans (s_istore f_214_45 rfl) ?_
    refine Eq.trans (s_iload f_214_47 rfl) ?_
    refine Eq.trans (s_if (P := 1 ≠ 0) 57 f_214_49 (by decide) rfl) (Eq.trans (if_pos (by decide)) ?_)
    refine Eq.trans (s_iloadn f_214_57 rfl) ?_
    refine Eq.trans (s_aloadn f_214_58 rfl) ?_
    refine Eq.trans (s_getR f_214_59 g_214_7 (by decide) kn_138 rf_138_0) ?_
    refine Eq.trans (s_bipush f_214_62) ?_
    refine Eq.trans (s_iald f_214_64 kn_139 ln_139) (Eq.trans (if_pos (by decide)) ?_)
    refine Eq.trans (s_icmp (P := v3 ≠ (M 139 122)) 73 f_214_65 (by decide) rfl) (ite_cg (fun h2 => ?_) (fun h2 => ?_))
    · refine Eq.trans (s_aloadn f_214_73 rfl) ?_
      refine Eq.trans (s_iloadn f_214_74 rfl) ?_
      refine Eq.trans (s_iconst f_214_75) ?_
      exact s_call [zR 138, zI v3, zI 4] [] f_214_76 rfl c_214_62 rfl rfl (Nat.le_of_ble_eq_true rfl) (by show (zkn SH 138 == zown 156) = true; rw [show zkn SH 138 = 10 from kn_138]; rfl)
    · refine Eq.trans (s_bipush f_214_68) ?_
      refine Eq.trans (s_goto 96 f_214_70 (by decide)) ?_
      exact s_iret f_214_96 t_214
theorem q_214_79 {d : Nat} (v1 v2 v3 v4 s0 : Int) (M : ZM) : Q d 214 79 [zR 138, zI v1, zI v2, zI v3, zI v4] [zI s0] M = if s0 < 0 then (Rt (some (zI 111)) M) else (Cb (E d 156 [zR 138, zI v3, zI 4] M) (fun v h => zrun (zevl d) 214 90 [zR 138, zI v1, zI v2, zI v3, zI v4] (v.toList ++ [zI 48]) h)) := by
  refine Eq.trans (s_if (P := s0 < 0) 94 f_214_79 (by decide) rfl) (ite_cg (fun h1 => ?_) (fun h1 => ?_))
  · refine Eq.trans (s_bipush f_214_94) ?_
    exact s_iret f_214_96 t_214
  · refine Eq.trans (s_bipush f_214_82) ?_
    refine Eq.trans (s_aloadn f_214_84 rfl) ?_
    refine Eq.trans (s_iloadn f_214_85 rfl) ?_
    refine Eq.trans (s_iconst f_214_86) ?_
    exact s_call [zR 138, zI v3, zI 4] [zI 48] f_214_87 rfl c_214_62 rfl rfl (Nat.le_of_ble_eq_true rfl) (by show (zkn SH 138 == zown 156) = true; rw [show zkn SH 138 = 10 from kn_138]; rfl)
theorem q_214_90 {d : Nat} (v1 v2 v3 v4 s0 s1 : Int) (M : ZM) : Q d 214 90 [zR 138, zI v1, zI v2, zI v3, zI v4] [zI s1, zI s0] M = Rt (some (zI (zw (s0 + s1)))) M := by
  refine Eq.trans (s_iadd f_214_90) ?_
  refine Eq.trans (s_goto 96 f_214_91 (by decide)) ?_
  exact s_iret f_214_96 t_214
theorem q_214_104 {d : Nat} (v1 v2 v3 s0 : Int) (M : ZM) : Q d 214 104 [zR 138, zI v1, zI v2, zI v3, zU] [zI s0] M = if s0 < 0 then (Cb (E d 211 [zR 138, zI v1, zI v2, zI 0] M) (fun v h => zrun (zevl d) 214 131 [zR 138, zI v1, zI v2, zI v3, zI s0] (v.toList ++ []) h)) else (Cb (E d 157 [zR 138, zI s0, zI 2] M) (fun v h => zrun (zevl d) 214 120 [zR 138, zI v1, zI v2, zI v3, zI s0] (v.toList ++ [zI 97]) h)) := by
  refine Eq.trans (s_istore f_214_104 rfl) ?_
  refine Eq.trans (s_iload f_214_106 rfl) ?_
  refine Eq.trans (s_if (P := s0 < 0) 124 f_214_108 (by decide) rfl) (ite_cg (fun h1 => ?_) (fun h1 => ?_))
  · refine Eq.trans (s_aloadn f_214_124 rfl) ?_
    refine Eq.trans (s_iloadn f_214_125 rfl) ?_
    refine Eq.trans (s_iloadn f_214_126 rfl) ?_
    refine Eq.trans (s_iconst f_214_127) ?_
    exact s_call [zR 138, zI v1, zI v2, zI 0] [] f_214_128 rfl c_214_224 rfl rfl (Nat.le_of_ble_eq_true rfl) (by show (zkn SH 138 == zown 211) = true; rw [show zkn SH 138 = 10 from kn_138]; rfl)
  · refine Eq.trans (s_bipush f_214_111) ?_
    refine Eq.trans (s_aloadn f_214_113 rfl) ?_
    refine Eq.trans (s_iload f_214_114 rfl) ?_
    refine Eq.trans (s_iconst f_214_116) ?_
    exact s_call [zR 138, zI s0, zI 2] [zI 97] f_214_117 rfl c_214_85 rfl rfl (Nat.le_of_ble_eq_true rfl) (by show (zkn SH 138 == zown 157) = true; rw [show zkn SH 138 = 10 from kn_138]; rfl)
theorem q_214_120 {d : Nat} (v1 v2 v3 v4 s0 s1 : Int) (M : ZM) : Q d 214 120 [zR 138, zI v1, zI v2, zI v3, zI v4] [zI s1, zI s0] M = Rt (some (zI (zw (s0 + s1)))) M := by
  refine Eq.trans (s_iadd f_214_120) ?_
  refine Eq.trans (s_goto 141 f_214_121 (by decide)) ?_
  exact s_iret f_214_141 t_214
theorem q_214_131 {d : Nat} (v1 v2 v3 v4 s0 : Int) (M : ZM) : Q d 214 131 [zR 138, zI v1, zI v2, zI v3, zI v4] [zI s0] M = if s0 < 0 then (Rt (some (zI 35)) M) else (Rt (some (zI 43)) M) := by
  refine Eq.trans (s_if (P := s0 < 0) 139 f_214_131 (by decide) rfl) (ite_cg (fun h1 => ?_) (fun h1 => ?_))
  · refine Eq.trans (s_bipush f_214_139) ?_
    exact s_iret f_214_141 t_214
  · refine Eq.trans (s_bipush f_214_134) ?_
    refine Eq.trans (s_goto 141 f_214_136 (by decide)) ?_
    exact s_iret f_214_141 t_214
theorem en_214 {d : Nat} (v1 v2 : Int) (M : ZM) : E (d + 1) 214 [zR 138, zI v1, zI v2] M = Q d 214 0 [zR 138, zI v1, zI v2, zU, zU] [] M := e_in (Nat.le_of_ble_eq_true rfl)
-- DungeonBuilderModel.isOpen(I)Z
theorem q_215_0 {d : Nat} (v1 : Int) (M : ZM) : Q d 215 0 [zR 138, zI v1] [] M = Cb (E d 165 [zR 138, zI ((v1).tmod 24), zI (zw ((v1).tdiv 24))] M) (fun v h => zrun (zevl d) 215 12 [zR 138, zI v1] (v.toList ++ []) h) := by
  refine Eq.trans (s_aloadn f_215_0 rfl) ?_
  refine Eq.trans (s_iloadn f_215_1 rfl) ?_
  refine Eq.trans (s_bipush f_215_2) ?_
  refine Eq.trans (s_irem f_215_4) (Eq.trans (if_pos (by decide)) ?_)
  refine Eq.trans (s_iloadn f_215_5 rfl) ?_
  refine Eq.trans (s_bipush f_215_6) ?_
  refine Eq.trans (s_idiv f_215_8) (Eq.trans (if_pos (by decide)) ?_)
  exact s_call [zR 138, zI ((v1).tmod 24), zI (zw ((v1).tdiv 24))] [] f_215_9 rfl c_215_82 rfl rfl (Nat.le_of_ble_eq_true rfl) (by show (zkn SH 138 == zown 165) = true; rw [show zkn SH 138 = 10 from kn_138]; rfl)
theorem q_215_12 {d : Nat} (v1 s0 : Int) (M : ZM) : Q d 215 12 [zR 138, zI v1] [zI s0] M = if 0 ≤ s0 then (Rt (some (zI 1)) M) else (Cb (E d 211 [zR 138, zI ((v1).tmod 24), zI (zw ((v1).tdiv 24)), zI 0] M) (fun v h => zrun (zevl d) 215 28 [zR 138, zI v1] (v.toList ++ []) h)) := by
  refine Eq.trans (s_if (P := 0 ≤ s0) 31 f_215_12 (by decide) rfl) (ite_cg (fun h1 => ?_) (fun h1 => ?_))
  · refine Eq.trans (s_iconst f_215_31) ?_
    refine Eq.trans (s_goto 36 f_215_32 (by decide)) ?_
    exact s_zret f_215_36 t_215 (by decide)
  · refine Eq.trans (s_aloadn f_215_15 rfl) ?_
    refine Eq.trans (s_iloadn f_215_16 rfl) ?_
    refine Eq.trans (s_bipush f_215_17) ?_
    refine Eq.trans (s_irem f_215_19) (Eq.trans (if_pos (by decide)) ?_)
    refine Eq.trans (s_iloadn f_215_20 rfl) ?_
    refine Eq.trans (s_bipush f_215_21) ?_
    refine Eq.trans (s_idiv f_215_23) (Eq.trans (if_pos (by decide)) ?_)
    refine Eq.trans (s_iconst f_215_24) ?_
    exact s_call [zR 138, zI ((v1).tmod 24), zI (zw ((v1).tdiv 24)), zI 0] [] f_215_25 rfl c_215_224 rfl rfl (Nat.le_of_ble_eq_true rfl) (by show (zkn SH 138 == zown 211) = true; rw [show zkn SH 138 = 10 from kn_138]; rfl)
theorem q_215_28 {d : Nat} (v1 s0 : Int) (M : ZM) : Q d 215 28 [zR 138, zI v1] [zI s0] M = if s0 < 0 then (Rt (some (zI 0)) M) else (Rt (some (zI 1)) M) := by
  refine Eq.trans (s_if (P := s0 < 0) 35 f_215_28 (by decide) rfl) (ite_cg (fun h1 => ?_) (fun h1 => ?_))
  · refine Eq.trans (s_iconst f_215_35) ?_
    exact s_zret f_215_36 t_215 (by decide)
  · refine Eq.trans (s_iconst f_215_31) ?_
    refine Eq.trans (s_goto 36 f_215_32 (by decide)) ?_
    exact s_zret f_215_36 t_215 (by decide)
theorem en_215 {d : Nat} (v1 : Int) (M : ZM) : E (d + 1) 215 [zR 138, zI v1] M = Q d 215 0 [zR 138, zI v1] [] M := e_in (Nat.le_of_ble_eq_true rfl)
-- DungeonBuilderModel.around(I)I
theorem q_216_0 {d : Nat} (v1 : Int) (M : ZM) : Q d 216 0 [zR 138, zI v1, zU, zU, zU, zU, zU] [] M = Q d 216 10 [zR 138, zI v1, zI (-1), zI ((v1).tmod 24), zI 0, zU, zU] [] M := by
  refine Eq.trans (s_iconst f_216_0) ?_
  refine Eq.trans (s_istoren f_216_1 rfl) ?_
  refine Eq.trans (s_iloadn f_216_2 rfl) ?_
  refine Eq.trans (s_bipush f_216_3) ?_
  refine Eq.trans (s_irem f_216_5) (Eq.trans (if_pos (by decide)) ?_)
  refine Eq.trans (s_istoren f_216_6 rfl) ?_
  refine Eq.trans (s_iconst f_216_7) ?_
  refine Eq.trans (s_istore f_216_8 rfl) ?_
  rfl
theorem q_216_10 {d : Nat} (v1 v2 v3 v4 : Int) (z5 z6 : ZV) (M : ZM) : Q d 216 10 [zR 138, zI v1, zI v2, zI v3, zI v4, z5, z6] [] M = if 4 ≤ v4 then (Rt (some (zI v2)) M) else (if v4 ≠ 0 then (if v4 ≠ 1 then (if v4 ≠ 2 then (if 360 ≤ v1 then (Q d 216 85 [zR 138, zI v1, zI v2, zI v3, zI v4, z5, z6] [zI 0] M) else (Q d 216 85 [zR 138, zI v1, zI v2, zI v3, zI v4, z5, z6] [zI 1] M)) else (if v1 < 24 then (Q d 216 85 [zR 138, zI v1, zI v2, zI v3, zI v4, z5, z6] [zI 0] M) else (Q d 216 85 [zR 138, zI v1, zI v2, zI v3, zI v4, z5, z6] [zI 1] M))) else (if 23 ≤ v3 then (Q d 216 85 [zR 138, zI v1, zI v2, zI v3, zI v4, z5, z6] [zI 0] M) else (Q d 216 85 [zR 138, zI v1, zI v2, zI v3, zI v4, z5, z6] [zI 1] M))) else (if v3 ≤ 0 then (Q d 216 85 [zR 138, zI v1, zI v2, zI v3, zI v4, z5, z6] [zI 0] M) else (Q d 216 85 [zR 138, zI v1, zI v2, zI v3, zI v4, z5, z6] [zI 1] M))) := by
  refine Eq.trans (s_iload f_216_10 rfl) ?_
  refine Eq.trans (s_iconst f_216_12) ?_
  refine Eq.trans (s_icmp (P := 4 ≤ v4) 172 f_216_13 (by decide) rfl) (ite_cg (fun h1 => ?_) (fun h1 => ?_))
  · refine Eq.trans (s_iloadn f_216_172 rfl) ?_
    exact s_iret f_216_173 t_216
  · refine Eq.trans (s_iload f_216_16 rfl) ?_
    refine Eq.trans (s_if (P := v4 ≠ 0) 33 f_216_18 (by decide) rfl) (ite_cg (fun h2 => ?_) (fun h2 => ?_))
    · refine Eq.trans (s_iload f_216_33 rfl) ?_
      refine Eq.trans (s_iconst f_216_35) ?_
      refine Eq.trans (s_icmp (P := v4 ≠ 1) 53 f_216_36 (by decide) rfl) (ite_cg (fun h3 => ?_) (fun h3 => ?_))
      · refine Eq.trans (s_iload f_216_53 rfl) ?_
        refine Eq.trans (s_iconst f_216_55) ?_
        refine Eq.trans (s_icmp (P := v4 ≠ 2) 73 f_216_56 (by decide) rfl) (ite_cg (fun h4 => ?_) (fun h4 => ?_))
        · refine Eq.trans (s_iloadn f_216_73 rfl) ?_
          refine Eq.trans (s_sipush f_216_74) ?_
          refine Eq.trans (s_icmp (P := 360 ≤ v1) 84 f_216_77 (by decide) rfl) (ite_cg (fun h5 => ?_) (fun h5 => ?_))
          · refine Eq.trans (s_iconst f_216_84) ?_
            rfl
          · refine Eq.trans (s_iconst f_216_80) ?_
            refine Eq.trans (s_goto 85 f_216_81 (by decide)) ?_
            rfl
        · refine Eq.trans (s_iloadn f_216_59 rfl) ?_
          refine Eq.trans (s_bipush f_216_60) ?_
          refine Eq.trans (s_icmp (P := v1 < 24) 69 f_216_62 (by decide) rfl) (ite_cg (fun h6 => ?_) (fun h6 => ?_))
          · refine Eq.trans (s_iconst f_216_69) ?_
            refine Eq.trans (s_goto 85 f_216_70 (by decide)) ?_
            rfl
          · refine Eq.trans (s_iconst f_216_65) ?_
            refine Eq.trans (s_goto 85 f_216_66 (by decide)) ?_
            rfl
      · refine Eq.trans (s_iloadn f_216_39 rfl) ?_
        refine Eq.trans (s_bipush f_216_40) ?_
        refine Eq.trans (s_icmp (P := 23 ≤ v3) 49 f_216_42 (by decide) rfl) (ite_cg (fun h7 => ?_) (fun h7 => ?_))
        · refine Eq.trans (s_iconst f_216_49) ?_
          refine Eq.trans (s_goto 85 f_216_50 (by decide)) ?_
          rfl
        · refine Eq.trans (s_iconst f_216_45) ?_
          refine Eq.trans (s_goto 85 f_216_46 (by decide)) ?_
          rfl
    · refine Eq.trans (s_iloadn f_216_21 rfl) ?_
      refine Eq.trans (s_if (P := v3 ≤ 0) 29 f_216_22 (by decide) rfl) (ite_cg (fun h8 => ?_) (fun h8 => ?_))
      · refine Eq.trans (s_iconst f_216_29) ?_
        refine Eq.trans (s_goto 85 f_216_30 (by decide)) ?_
        rfl
      · refine Eq.trans (s_iconst f_216_25) ?_
        refine Eq.trans (s_goto 85 f_216_26 (by decide)) ?_
        rfl
theorem q_216_85 {d : Nat} (v1 v2 v3 v4 s0 : Int) (z5 z6 : ZV) (M : ZM) : Q d 216 85 [zR 138, zI v1, zI v2, zI v3, zI v4, z5, z6] [zI s0] M = if v4 ≠ 0 then (if v4 ≠ 1 then (if v4 ≠ 2 then (Q d 216 120 [zR 138, zI v1, zI v2, zI v3, zI v4, zI s0, z6] [zI 24, zI v1] M) else (Q d 216 120 [zR 138, zI v1, zI v2, zI v3, zI v4, zI s0, z6] [zI (-24), zI v1] M)) else (Q d 216 120 [zR 138, zI v1, zI v2, zI v3, zI v4, zI s0, z6] [zI 1, zI v1] M)) else (Q d 216 120 [zR 138, zI v1, zI v2, zI v3, zI v4, zI s0, z6] [zI (-1), zI v1] M) := by
  refine Eq.trans (s_istore f_216_85 rfl) ?_
  refine Eq.trans (s_iloadn f_216_87 rfl) ?_
  refine Eq.trans (s_iload f_216_88 rfl) ?_
  refine Eq.trans (s_if (P := v4 ≠ 0) 97 f_216_90 (by decide) rfl) (ite_cg (fun h1 => ?_) (fun h1 => ?_))
  · refine Eq.trans (s_iload f_216_97 rfl) ?_
    refine Eq.trans (s_iconst f_216_99) ?_
    refine Eq.trans (s_icmp (P := v4 ≠ 1) 107 f_216_100 (by decide) rfl) (ite_cg (fun h2 => ?_) (fun h2 => ?_))
    · refine Eq.trans (s_iload f_216_107 rfl) ?_
      refine Eq.trans (s_iconst f_216_109) ?_
      refine Eq.trans (s_icmp (P := v4 ≠ 2) 118 f_216_110 (by decide) rfl) (ite_cg (fun h3 => ?_) (fun h3 => ?_))
      · refine Eq.trans (s_bipush f_216_118) ?_
        rfl
      · refine Eq.trans (s_bipush f_216_113) ?_
        refine Eq.trans (s_goto 120 f_216_115 (by decide)) ?_
        rfl
    · refine Eq.trans (s_iconst f_216_103) ?_
      refine Eq.trans (s_goto 120 f_216_104 (by decide)) ?_
      rfl
  · refine Eq.trans (s_iconst f_216_93) ?_
    refine Eq.trans (s_goto 120 f_216_94 (by decide)) ?_
    rfl
theorem q_216_120 {d : Nat} (v1 v2 v3 v4 v5 s0 s1 : Int) (z6 : ZV) (M : ZM) : Q d 216 120 [zR 138, zI v1, zI v2, zI v3, zI v4, zI v5, z6] [zI s1, zI s0] M = if v5 = 0 then (Q d 216 10 [zR 138, zI v1, zI v2, zI v3, zI (zw (v4 + 1)), zI v5, zI (zw (s0 + s1))] [] M) else (if 0 ≤ (zw (s0 + s1)) ∧ (zw (s0 + s1)) < 384 then if (M 150 (zw (s0 + s1))) < 0 then (Q d 216 10 [zR 138, zI v1, zI v2, zI v3, zI (zw (v4 + 1)), zI v5, zI (zw (s0 + s1))] [] M) else (if v2 = (-1) then (if 0 ≤ (zw (s0 + s1)) ∧ (zw (s0 + s1)) < 384 then Q d 216 10 [zR 138, zI v1, zI (M 150 (zw (s0 + s1))), zI v3, zI (zw (v4 + 1)), zI v5, zI (zw (s0 + s1))] [] M else none) else (if 0 ≤ (zw (s0 + s1)) ∧ (zw (s0 + s1)) < 384 then if v2 ≤ (M 150 (zw (s0 + s1))) then (Q d 216 10 [zR 138, zI v1, zI v2, zI v3, zI (zw (v4 + 1)), zI v5, zI (zw (s0 + s1))] [] M) else (if 0 ≤ (zw (s0 + s1)) ∧ (zw (s0 + s1)) < 384 then Q d 216 10 [zR 138, zI v1, zI (M 150 (zw (s0 + s1))), zI v3, zI (zw (v4 + 1)), zI v5, zI (zw (s0 + s1))] [] M else none) else none)) else none) := by
  refine Eq.trans (s_iadd f_216_120) ?_
  refine Eq.trans (s_istore f_216_121 rfl) ?_
  refine Eq.trans (s_iload f_216_123 rfl) ?_
  refine Eq.trans (s_if (P := v5 = 0) 164 f_216_125 (by decide) rfl) (ite_cg (fun h1 => ?_) (fun h1 => ?_))
  · refine Eq.trans (s_iloadn f_216_164 rfl) ?_
    refine Eq.trans (s_istoren f_216_165 rfl) ?_
    refine Eq.trans (s_iinc f_216_166 rfl rfl) ?_
    refine Eq.trans (s_goto 10 f_216_169 (by decide)) ?_
    rfl
  · refine Eq.trans (s_aloadn f_216_128 rfl) ?_
    refine Eq.trans (s_getR f_216_129 g_216_49 (by decide) kn_138 rf_138_22) ?_
    refine Eq.trans (s_iload f_216_132 rfl) ?_
    refine Eq.trans (s_iald f_216_134 kn_150 ln_150) (gd_cg fun h2 => ?_)
    refine Eq.trans (s_if (P := (M 150 (zw (s0 + s1))) < 0) 164 f_216_135 (by decide) rfl) (ite_cg (fun h3 => ?_) (fun h3 => ?_))
    · refine Eq.trans (s_iloadn f_216_164 rfl) ?_
      refine Eq.trans (s_istoren f_216_165 rfl) ?_
      refine Eq.trans (s_iinc f_216_166 rfl rfl) ?_
      refine Eq.trans (s_goto 10 f_216_169 (by decide)) ?_
      rfl
    · refine Eq.trans (s_iloadn f_216_138 rfl) ?_
      refine Eq.trans (s_iconst f_216_139) ?_
      refine Eq.trans (s_icmp (P := v2 = (-1)) 154 f_216_140 (by decide) rfl) (ite_cg (fun h4 => ?_) (fun h4 => ?_))
      · refine Eq.trans (s_aloadn f_216_154 rfl) ?_
        refine Eq.trans (s_getR f_216_155 g_216_49 (by decide) kn_138 rf_138_22) ?_
        refine Eq.trans (s_iload f_216_158 rfl) ?_
        refine Eq.trans (s_iald f_216_160 kn_150 ln_150) (gd_cg fun h5 => ?_)
        refine Eq.trans (s_goto 165 f_216_161 (by decide)) ?_
        refine Eq.trans (s_istoren f_216_165 rfl) ?_
        refine Eq.trans (s_iinc f_216_166 rfl rfl) ?_
        refine Eq.trans (s_goto 10 f_216_169 (by decide)) ?_
        rfl
      · refine Eq.trans (s_aloadn f_216_143 rfl) ?_
        refine Eq.trans (s_getR f_216_144 g_216_49 (by decide) kn_138 rf_138_22) ?_
        refine Eq.trans (s_iload f_216_147 rfl) ?_
        refine Eq.trans (s_iald f_216_149 kn_150 ln_150) (gd_cg fun h6 => ?_)
        refine Eq.trans (s_iloadn f_216_150 rfl) ?_
        refine Eq.trans (s_icmp (P := v2 ≤ (M 150 (zw (s0 + s1)))) 164 f_216_151 (by decide) rfl) (ite_cg (fun h7 => ?_) (fun h7 => ?_))
        · refine Eq.trans (s_iloadn f_216_164 rfl) ?_
          refine Eq.trans (s_istoren f_216_165 rfl) ?_
          refine Eq.trans (s_iinc f_216_166 rfl rfl) ?_
          refine Eq.trans (s_goto 10 f_216_169 (by decide)) ?_
          rfl
        · refine Eq.trans (s_aloadn f_216_154 rfl) ?_
          refine Eq.trans (s_getR f_216_155 g_216_49 (by decide) kn_138 rf_138_22) ?_
          refine Eq.trans (s_iload f_216_158 rfl) ?_
          refine Eq.trans (s_iald f_216_160 kn_150 ln_150) (gd_cg fun h8 => ?_)
          refine Eq.trans (s_goto 165 f_216_161 (by decide)) ?_
          refine Eq.trans (s_istoren f_216_165 rfl) ?_
          refine Eq.trans (s_iinc f_216_166 rfl rfl) ?_
          refine Eq.trans (s_goto 10 f_216_169 (by decide)) ?_
          rfl
theorem en_216 {d : Nat} (v1 : Int) (M : ZM) : E (d + 1) 216 [zR 138, zI v1] M = Q d 216 0 [zR 138, zI v1, zU, zU, zU, zU, zU] [] M := e_in (Nat.le_of_ble_eq_true rfl)
-- DungeonBuilderModel.steps(IIII)I
theorem q_217_0 {d : Nat} (v1 v2 v3 v4 : Int) (M : ZM) : Q d 217 0 [zR 138, zI v1, zI v2, zI v3, zI v4, zU, zU, zU] [] M = Cb (E d 208 [zI v1, zI v2] M) (fun v h => zrun (zevl d) 217 5 [zR 138, zI v1, zI v2, zI v3, zI v4, zU, zU, zU] (v.toList ++ []) h) := by
  refine Eq.trans (s_iloadn f_217_0 rfl) ?_
  refine Eq.trans (s_iloadn f_217_1 rfl) ?_
  exact s_call [zI v1, zI v2] [] f_217_2 rfl c_217_220 rfl rfl (Nat.le_of_ble_eq_true rfl) rfl
theorem q_217_5 {d : Nat} (v1 v2 v3 v4 s0 : Int) (M : ZM) : Q d 217 5 [zR 138, zI v1, zI v2, zI v3, zI v4, zU, zU, zU] [zI s0] M = if s0 = 0 then (Rt (some (zI (-101))) M) else (Cb (E d 208 [zI v3, zI v4] M) (fun v h => zrun (zevl d) 217 14 [zR 138, zI v1, zI v2, zI v3, zI v4, zU, zU, zU] (v.toList ++ []) h)) := by
  refine Eq.trans (s_if (P := s0 = 0) 17 f_217_5 (by decide) rfl) (ite_cg (fun h1 => ?_) (fun h1 => ?_))
  · refine Eq.trans (s_bipush f_217_17) ?_
    exact s_iret f_217_19 t_217
  · refine Eq.trans (s_iloadn f_217_8 rfl) ?_
    refine Eq.trans (s_iload f_217_9 rfl) ?_
    exact s_call [zI v3, zI v4] [] f_217_11 rfl c_217_220 rfl rfl (Nat.le_of_ble_eq_true rfl) rfl
theorem q_217_14 {d : Nat} (v1 v2 v3 v4 s0 : Int) (M : ZM) : Q d 217 14 [zR 138, zI v1, zI v2, zI v3, zI v4, zU, zU, zU] [zI s0] M = if s0 ≠ 0 then (Cb (E d 215 [zR 138, zI (zw ((zw (24 * v2)) + v1))] M) (fun v h => zrun (zevl d) 217 30 [zR 138, zI v1, zI v2, zI v3, zI v4, zU, zU, zU] (v.toList ++ []) h)) else (Rt (some (zI (-101))) M) := by
  refine Eq.trans (s_if (P := s0 ≠ 0) 20 f_217_14 (by decide) rfl) (ite_cg (fun h1 => ?_) (fun h1 => ?_))
  · refine Eq.trans (s_aloadn f_217_20 rfl) ?_
    refine Eq.trans (s_bipush f_217_21) ?_
    refine Eq.trans (s_iloadn f_217_23 rfl) ?_
    refine Eq.trans (s_imul f_217_24) ?_
    refine Eq.trans (s_iloadn f_217_25 rfl) ?_
    refine Eq.trans (s_iadd f_217_26) ?_
    exact s_call [zR 138, zI (zw ((zw (24 * v2)) + v1))] [] f_217_27 rfl c_217_228 rfl rfl (Nat.le_of_ble_eq_true rfl) (by show (zkn SH 138 == zown 215) = true; rw [show zkn SH 138 = 10 from kn_138]; rfl)
  · refine Eq.trans (s_bipush f_217_17) ?_
    exact s_iret f_217_19 t_217
theorem q_217_30 {d : Nat} (v1 v2 v3 v4 s0 : Int) (M : ZM) : Q d 217 30 [zR 138, zI v1, zI v2, zI v3, zI v4, zU, zU, zU] [zI s0] M = if s0 = 0 then (Rt (some (zI (-102))) M) else (Cb (E d 215 [zR 138, zI (zw ((zw (24 * v4)) + v3))] M) (fun v h => zrun (zevl d) 217 44 [zR 138, zI v1, zI v2, zI v3, zI v4, zU, zU, zU] (v.toList ++ []) h)) := by
  refine Eq.trans (s_if (P := s0 = 0) 47 f_217_30 (by decide) rfl) (ite_cg (fun h1 => ?_) (fun h1 => ?_))
  · refine Eq.trans (s_bipush f_217_47) ?_
    exact s_iret f_217_49 t_217
  · refine Eq.trans (s_aloadn f_217_33 rfl) ?_
    refine Eq.trans (s_bipush f_217_34) ?_
    refine Eq.trans (s_iload f_217_36 rfl) ?_
    refine Eq.trans (s_imul f_217_38) ?_
    refine Eq.trans (s_iloadn f_217_39 rfl) ?_
    refine Eq.trans (s_iadd f_217_40) ?_
    exact s_call [zR 138, zI (zw ((zw (24 * v4)) + v3))] [] f_217_41 rfl c_217_228 rfl rfl (Nat.le_of_ble_eq_true rfl) (by show (zkn SH 138 == zown 215) = true; rw [show zkn SH 138 = 10 from kn_138]; rfl)
theorem q_217_44 {d : Nat} (v1 v2 v3 v4 s0 : Int) (M : ZM) : Q d 217 44 [zR 138, zI v1, zI v2, zI v3, zI v4, zU, zU, zU] [zI s0] M = if s0 ≠ 0 then (Q d 217 53 [zR 138, zI v1, zI v2, zI v3, zI v4, zI 0, zU, zU] [] M) else (Rt (some (zI (-102))) M) := by
  refine Eq.trans (s_if (P := s0 ≠ 0) 50 f_217_44 (by decide) rfl) (ite_cg (fun h1 => ?_) (fun h1 => ?_))
  · refine Eq.trans (s_iconst f_217_50) ?_
    refine Eq.trans (s_istore f_217_51 rfl) ?_
    rfl
  · refine Eq.trans (s_bipush f_217_47) ?_
    exact s_iret f_217_49 t_217
theorem q_217_53 {d : Nat} (v1 v2 v3 v4 v5 : Int) (M : ZM) : Q d 217 53 [zR 138, zI v1, zI v2, zI v3, zI v4, zI v5, zU, zU] [] M = if 384 ≤ v5 then (Q d 217 109 [zR 138, zI v1, zI v2, zI v3, zI v4, zI 1, zI 1, zU] [] M) else (if v5 ≠ (zw ((zw (24 * v2)) + v1)) then (if 0 ≤ v5 ∧ v5 < 384 then Cb (E d 215 [zR 138, zI v5] (zwr M 150 v5 (-1))) (fun v h => zrun (zevl d) 217 96 [zR 138, zI v1, zI v2, zI v3, zI v4, zI v5, zU, zU] (v.toList ++ [zI v5, zR 151]) h) else none) else (if 0 ≤ v5 ∧ v5 < 384 then Cb (E d 215 [zR 138, zI v5] (zwr M 150 v5 0)) (fun v h => zrun (zevl d) 217 96 [zR 138, zI v1, zI v2, zI v3, zI v4, zI v5, zU, zU] (v.toList ++ [zI v5, zR 151]) h) else none)) := by
  refine Eq.trans (s_iload f_217_53 rfl) ?_
  refine Eq.trans (s_sipush f_217_55) ?_
  refine Eq.trans (s_icmp (P := 384 ≤ v5) 103 f_217_58 (by decide) rfl) (ite_cg (fun h1 => ?_) (fun h1 => ?_))
  · refine Eq.trans (s_iconst f_217_103) ?_
    refine Eq.trans (s_istore f_217_104 rfl) ?_
    refine Eq.trans (s_iconst f_217_106) ?_
    refine Eq.trans (s_istore f_217_107 rfl) ?_
    rfl
  · refine Eq.trans (s_aloadn f_217_61 rfl) ?_
    refine Eq.trans (s_getR f_217_62 g_217_49 (by decide) kn_138 rf_138_22) ?_
    refine Eq.trans (s_iload f_217_65 rfl) ?_
    refine Eq.trans (s_iload f_217_67 rfl) ?_
    refine Eq.trans (s_bipush f_217_69) ?_
    refine Eq.trans (s_iloadn f_217_71 rfl) ?_
    refine Eq.trans (s_imul f_217_72) ?_
    refine Eq.trans (s_iloadn f_217_73 rfl) ?_
    refine Eq.trans (s_iadd f_217_74) ?_
    refine Eq.trans (s_icmp (P := v5 ≠ (zw ((zw (24 * v2)) + v1))) 82 f_217_75 (by decide) rfl) (ite_cg (fun h2 => ?_) (fun h2 => ?_))
    · refine Eq.trans (s_iconst f_217_82) ?_
      refine Eq.trans (s_iast f_217_83 kn_150 ln_150) (gd_cg fun h3 => ?_)
      refine Eq.trans (s_aloadn f_217_84 rfl) ?_
      refine Eq.trans (s_getR f_217_85 g_217_52 (by decide) kn_138 rf_138_23) ?_
      refine Eq.trans (s_iload f_217_88 rfl) ?_
      refine Eq.trans (s_aloadn f_217_90 rfl) ?_
      refine Eq.trans (s_iload f_217_91 rfl) ?_
      exact s_call [zR 138, zI v5] [zI v5, zR 151] f_217_93 rfl c_217_228 rfl rfl (Nat.le_of_ble_eq_true rfl) (by show (zkn SH 138 == zown 215) = true; rw [show zkn SH 138 = 10 from kn_138]; rfl)
    · refine Eq.trans (s_iconst f_217_78) ?_
      refine Eq.trans (s_goto 83 f_217_79 (by decide)) ?_
      refine Eq.trans (s_iast f_217_83 kn_150 ln_150) (gd_cg fun h4 => ?_)
      refine Eq.trans (s_aloadn f_217_84 rfl) ?_
      refine Eq.trans (s_getR f_217_85 g_217_52 (by decide) kn_138 rf_138_23) ?_
      refine Eq.trans (s_iload f_217_88 rfl) ?_
      refine Eq.trans (s_aloadn f_217_90 rfl) ?_
      refine Eq.trans (s_iload f_217_91 rfl) ?_
      exact s_call [zR 138, zI v5] [zI v5, zR 151] f_217_93 rfl c_217_228 rfl rfl (Nat.le_of_ble_eq_true rfl) (by show (zkn SH 138 == zown 215) = true; rw [show zkn SH 138 = 10 from kn_138]; rfl)
theorem q_217_96 {d : Nat} (v1 v2 v3 v4 v5 s1 s2 : Int) (M : ZM) : Q d 217 96 [zR 138, zI v1, zI v2, zI v3, zI v4, zI v5, zU, zU] [zI s2, zI s1, zR 151] M = if (0 ≤ s1 ∧ s1 < 384) ∧ (s2 = 0 ∨ s2 = 1) then Q d 217 53 [zR 138, zI v1, zI v2, zI v3, zI v4, zI (zw (v5 + 1)), zU, zU] [] (zwr M 151 s1 s2) else none := by
  refine Eq.trans (s_bast f_217_96 kn_151 ln_151) (gd_cg fun h1 => ?_)
  refine Eq.trans (s_iinc f_217_97 rfl rfl) ?_
  refine Eq.trans (s_goto 53 f_217_100 (by decide)) ?_
  rfl
theorem q_217_109 {d : Nat} (v1 v2 v3 v4 v5 v6 : Int) (z7 : ZV) (M : ZM) : Q d 217 109 [zR 138, zI v1, zI v2, zI v3, zI v4, zI v5, zI v6, z7] [] M = if v5 = 0 then (if 0 ≤ (zw ((zw (24 * v4)) + v3)) ∧ (zw ((zw (24 * v4)) + v3)) < 384 then if (M 150 (zw ((zw (24 * v4)) + v3))) ≠ (-1) then (Rt (some (zI (M 150 (zw ((zw (24 * v4)) + v3))))) M) else (Rt (some (zI (-104))) M) else none) else (Q d 217 120 [zR 138, zI v1, zI v2, zI v3, zI v4, zI 0, zI v6, zI 0] [] M) := by
  refine Eq.trans (s_iload f_217_109 rfl) ?_
  refine Eq.trans (s_if (P := v5 = 0) 186 f_217_111 (by decide) rfl) (ite_cg (fun h1 => ?_) (fun h1 => ?_))
  · refine Eq.trans (s_aloadn f_217_186 rfl) ?_
    refine Eq.trans (s_getR f_217_187 g_217_49 (by decide) kn_138 rf_138_22) ?_
    refine Eq.trans (s_bipush f_217_190) ?_
    refine Eq.trans (s_iload f_217_192 rfl) ?_
    refine Eq.trans (s_imul f_217_194) ?_
    refine Eq.trans (s_iloadn f_217_195 rfl) ?_
    refine Eq.trans (s_iadd f_217_196) ?_
    refine Eq.trans (s_iald f_217_197 kn_150 ln_150) (gd_cg fun h2 => ?_)
    refine Eq.trans (s_istore f_217_198 rfl) ?_
    refine Eq.trans (s_iload f_217_200 rfl) ?_
    refine Eq.trans (s_iconst f_217_202) ?_
    refine Eq.trans (s_icmp (P := (M 150 (zw ((zw (24 * v4)) + v3))) ≠ (-1)) 211 f_217_203 (by decide) rfl) (ite_cg (fun h3 => ?_) (fun h3 => ?_))
    · refine Eq.trans (s_iload f_217_211 rfl) ?_
      exact s_iret f_217_213 t_217
    · refine Eq.trans (s_bipush f_217_206) ?_
      refine Eq.trans (s_goto 213 f_217_208 (by decide)) ?_
      exact s_iret f_217_213 t_217
  · refine Eq.trans (s_iconst f_217_114) ?_
    refine Eq.trans (s_istore f_217_115 rfl) ?_
    refine Eq.trans (s_iconst f_217_117) ?_
    refine Eq.trans (s_istore f_217_118 rfl) ?_
    rfl
theorem q_217_120 {d : Nat} (v1 v2 v3 v4 v5 v6 v7 : Int) (M : ZM) : Q d 217 120 [zR 138, zI v1, zI v2, zI v3, zI v4, zI v5, zI v6, zI v7] [] M = if 384 ≤ v7 then (Q d 217 109 [zR 138, zI v1, zI v2, zI v3, zI v4, zI v5, zI (zw (v6 + 1)), zI v7] [] M) else (if 0 ≤ v7 ∧ v7 < 384 then if (M 151 v7) = 0 then (Q d 217 120 [zR 138, zI v1, zI v2, zI v3, zI v4, zI v5, zI v6, zI (zw (v7 + 1))] [] M) else (if 0 ≤ v7 ∧ v7 < 384 then if (M 150 v7) ≠ (-1) then (Q d 217 120 [zR 138, zI v1, zI v2, zI v3, zI v4, zI v5, zI v6, zI (zw (v7 + 1))] [] M) else (Cb (E d 216 [zR 138, zI v7] M) (fun v h => zrun (zevl d) 217 155 [zR 138, zI v1, zI v2, zI v3, zI v4, zI v5, zI v6, zI v7] (v.toList ++ []) h)) else none) else none) := by
  refine Eq.trans (s_iload f_217_120 rfl) ?_
  refine Eq.trans (s_sipush f_217_122) ?_
  refine Eq.trans (s_icmp (P := 384 ≤ v7) 180 f_217_125 (by decide) rfl) (ite_cg (fun h1 => ?_) (fun h1 => ?_))
  · refine Eq.trans (s_iinc f_217_180 rfl rfl) ?_
    refine Eq.trans (s_goto 109 f_217_183 (by decide)) ?_
    rfl
  · refine Eq.trans (s_aloadn f_217_128 rfl) ?_
    refine Eq.trans (s_getR f_217_129 g_217_52 (by decide) kn_138 rf_138_23) ?_
    refine Eq.trans (s_iload f_217_132 rfl) ?_
    refine Eq.trans (s_bald f_217_134 kn_151 ln_151) (gd_cg fun h2 => ?_)
    refine Eq.trans (s_if (P := (M 151 v7) = 0) 174 f_217_135 (by decide) rfl) (ite_cg (fun h3 => ?_) (fun h3 => ?_))
    · refine Eq.trans (s_iinc f_217_174 rfl rfl) ?_
      refine Eq.trans (s_goto 120 f_217_177 (by decide)) ?_
      rfl
    · refine Eq.trans (s_aloadn f_217_138 rfl) ?_
      refine Eq.trans (s_getR f_217_139 g_217_49 (by decide) kn_138 rf_138_22) ?_
      refine Eq.trans (s_iload f_217_142 rfl) ?_
      refine Eq.trans (s_iald f_217_144 kn_150 ln_150) (gd_cg fun h4 => ?_)
      refine Eq.trans (s_iconst f_217_145) ?_
      refine Eq.trans (s_icmp (P := (M 150 v7) ≠ (-1)) 174 f_217_146 (by decide) rfl) (ite_cg (fun h5 => ?_) (fun h5 => ?_))
      · refine Eq.trans (s_iinc f_217_174 rfl rfl) ?_
        refine Eq.trans (s_goto 120 f_217_177 (by decide)) ?_
        rfl
      · refine Eq.trans (s_aloadn f_217_149 rfl) ?_
        refine Eq.trans (s_iload f_217_150 rfl) ?_
        exact s_call [zR 138, zI v7] [] f_217_152 rfl c_217_231 rfl rfl (Nat.le_of_ble_eq_true rfl) (by show (zkn SH 138 == zown 216) = true; rw [show zkn SH 138 = 10 from kn_138]; rfl)
theorem q_217_155 {d : Nat} (v1 v2 v3 v4 v5 v6 v7 s0 : Int) (M : ZM) : Q d 217 155 [zR 138, zI v1, zI v2, zI v3, zI v4, zI v5, zI v6, zI v7] [zI s0] M = if s0 ≠ (zw (v6 - 1)) then (Q d 217 120 [zR 138, zI v1, zI v2, zI v3, zI v4, zI v5, zI v6, zI (zw (v7 + 1))] [] M) else (if 0 ≤ v7 ∧ v7 < 384 then Q d 217 120 [zR 138, zI v1, zI v2, zI v3, zI v4, zI 1, zI v6, zI (zw (v7 + 1))] [] (zwr M 150 v7 v6) else none) := by
  refine Eq.trans (s_iload f_217_155 rfl) ?_
  refine Eq.trans (s_iconst f_217_157) ?_
  refine Eq.trans (s_isub f_217_158) ?_
  refine Eq.trans (s_icmp (P := s0 ≠ (zw (v6 - 1))) 174 f_217_159 (by decide) rfl) (ite_cg (fun h1 => ?_) (fun h1 => ?_))
  · refine Eq.trans (s_iinc f_217_174 rfl rfl) ?_
    refine Eq.trans (s_goto 120 f_217_177 (by decide)) ?_
    rfl
  · refine Eq.trans (s_aloadn f_217_162 rfl) ?_
    refine Eq.trans (s_getR f_217_163 g_217_49 (by decide) kn_138 rf_138_22) ?_
    refine Eq.trans (s_iload f_217_166 rfl) ?_
    refine Eq.trans (s_iload f_217_168 rfl) ?_
    refine Eq.trans (s_iast f_217_170 kn_150 ln_150) (gd_cg fun h2 => ?_)
    refine Eq.trans (s_iconst f_217_171) ?_
    refine Eq.trans (s_istore f_217_172 rfl) ?_
    refine Eq.trans (s_iinc f_217_174 rfl rfl) ?_
    refine Eq.trans (s_goto 120 f_217_177 (by decide)) ?_
    rfl
theorem en_217 {d : Nat} (v1 v2 v3 v4 : Int) (M : ZM) : E (d + 1) 217 [zR 138, zI v1, zI v2, zI v3, zI v4] M = Q d 217 0 [zR 138, zI v1, zI v2, zI v3, zI v4, zU, zU, zU] [] M := e_in (Nat.le_of_ble_eq_true rfl)
-- DungeonBuilderModel.groups(I)I
theorem q_218_0 {d : Nat} (v1 : Int) (M : ZM) : Q d 218 0 [zR 138, zI v1, zU, zU, zU, zU] [] M = Q d 218 7 [zR 138, zI v1, zI 0, zI 0, zI 0, zU] [] M := by
  refine Eq.trans (s_iconst f_218_0) ?_
  refine Eq.trans (s_istoren f_218_1 rfl) ?_
  refine Eq.trans (s_iconst f_218_2) ?_
  refine Eq.trans (s_istoren f_218_3 rfl) ?_
  refine Eq.trans (s_iconst f_218_4) ?_
  refine Eq.trans (s_istore f_218_5 rfl) ?_
  rfl
theorem q_218_7 {d : Nat} (v1 v2 v3 v4 : Int) (z5 : ZV) (M : ZM) : Q d 218 7 [zR 138, zI v1, zI v2, zI v3, zI v4, z5] [] M = if (M 139 120) ≤ v4 then (Rt (some (zI v2)) M) else (if (zand (zshr v3 v4) 1) ≠ 0 then (Q d 218 7 [zR 138, zI v1, zI v2, zI v3, zI (zw (v4 + 1)), z5] [] M) else (Cb (E d 187 [zR 138, zI v4, zI v1] M) (fun v h => zrun (zevl d) 218 38 [zR 138, zI v1, zI (zw (v2 + 1)), zI v3, zI v4, z5] (v.toList ++ []) h))) := by
  refine Eq.trans (s_iload f_218_7 rfl) ?_
  refine Eq.trans (s_aloadn f_218_9 rfl) ?_
  refine Eq.trans (s_getR f_218_10 g_218_7 (by decide) kn_138 rf_138_0) ?_
  refine Eq.trans (s_bipush f_218_13) ?_
  refine Eq.trans (s_iald f_218_15 kn_139 ln_139) (Eq.trans (if_pos (by decide)) ?_)
  refine Eq.trans (s_icmp (P := (M 139 120) ≤ v4) 86 f_218_16 (by decide) rfl) (ite_cg (fun h1 => ?_) (fun h1 => ?_))
  · refine Eq.trans (s_iloadn f_218_86 rfl) ?_
    exact s_iret f_218_87 t_218
  · refine Eq.trans (s_iloadn f_218_19 rfl) ?_
    refine Eq.trans (s_iload f_218_20 rfl) ?_
    refine Eq.trans (s_ishr f_218_22) ?_
    refine Eq.trans (s_iconst f_218_23) ?_
    refine Eq.trans (s_iand f_218_24) ?_
    refine Eq.trans (s_if (P := (zand (zshr v3 v4) 1) ≠ 0) 80 f_218_25 (by decide) rfl) (ite_cg (fun h2 => ?_) (fun h2 => ?_))
    · refine Eq.trans (s_iinc f_218_80 rfl rfl) ?_
      refine Eq.trans (s_goto 7 f_218_83 (by decide)) ?_
      rfl
    · refine Eq.trans (s_iinc f_218_28 rfl rfl) ?_
      refine Eq.trans (s_aloadn f_218_31 rfl) ?_
      refine Eq.trans (s_iload f_218_32 rfl) ?_
      refine Eq.trans (s_iloadn f_218_34 rfl) ?_
      exact s_call [zR 138, zI v4, zI v1] [] f_218_35 rfl c_218_154 rfl rfl (Nat.le_of_ble_eq_true rfl) (by show (zkn SH 138 == zown 187) = true; rw [show zkn SH 138 = 10 from kn_138]; rfl)
theorem q_218_38 {d : Nat} (v1 v2 v3 v4 : Int) (z5 : ZV) (M : ZM) : Q d 218 38 [zR 138, zI v1, zI v2, zI v3, zI v4, z5] [] M = Q d 218 41 [zR 138, zI v1, zI v2, zI v3, zI v4, zI 0] [] M := by
  refine Eq.trans (s_iconst f_218_38) ?_
  refine Eq.trans (s_istore f_218_39 rfl) ?_
  rfl
theorem q_218_41 {d : Nat} (v1 v2 v3 v4 v5 : Int) (M : ZM) : Q d 218 41 [zR 138, zI v1, zI v2, zI v3, zI v4, zI v5] [] M = if (M 139 120) ≤ v5 then (Q d 218 7 [zR 138, zI v1, zI v2, zI v3, zI (zw (v4 + 1)), zI v5] [] M) else (if 0 ≤ v5 ∧ v5 < 12 then if (M 145 v5) < 0 then (Q d 218 41 [zR 138, zI v1, zI v2, zI (zor v3 0), zI v4, zI (zw (v5 + 1))] [] M) else (Q d 218 41 [zR 138, zI v1, zI v2, zI (zor v3 (zshl 1 v5)), zI v4, zI (zw (v5 + 1))] [] M) else none) := by
  refine Eq.trans (s_iload f_218_41 rfl) ?_
  refine Eq.trans (s_aloadn f_218_43 rfl) ?_
  refine Eq.trans (s_getR f_218_44 g_218_7 (by decide) kn_138 rf_138_0) ?_
  refine Eq.trans (s_bipush f_218_47) ?_
  refine Eq.trans (s_iald f_218_49 kn_139 ln_139) (Eq.trans (if_pos (by decide)) ?_)
  refine Eq.trans (s_icmp (P := (M 139 120) ≤ v5) 80 f_218_50 (by decide) rfl) (ite_cg (fun h1 => ?_) (fun h1 => ?_))
  · refine Eq.trans (s_iinc f_218_80 rfl rfl) ?_
    refine Eq.trans (s_goto 7 f_218_83 (by decide)) ?_
    rfl
  · refine Eq.trans (s_iloadn f_218_53 rfl) ?_
    refine Eq.trans (s_aloadn f_218_54 rfl) ?_
    refine Eq.trans (s_getR f_218_55 g_218_28 (by decide) kn_138 rf_138_11) ?_
    refine Eq.trans (s_iload f_218_58 rfl) ?_
    refine Eq.trans (s_iald f_218_60 kn_145 ln_145) (gd_cg fun h2 => ?_)
    refine Eq.trans (s_if (P := (M 145 v5) < 0) 71 f_218_61 (by decide) rfl) (ite_cg (fun h3 => ?_) (fun h3 => ?_))
    · refine Eq.trans (s_iconst f_218_71) ?_
      refine Eq.trans (s_ior f_218_72) ?_
      refine Eq.trans (s_istoren f_218_73 rfl) ?_
      refine Eq.trans (s_iinc f_218_74 rfl rfl) ?_
      refine Eq.trans (s_goto 41 f_218_77 (by decide)) ?_
      rfl
    · refine Eq.trans (s_iconst f_218_64) ?_
      refine Eq.trans (s_iload f_218_65 rfl) ?_
      refine Eq.trans (s_ishl f_218_67) ?_
      refine Eq.trans (s_goto 72 f_218_68 (by decide)) ?_
      refine Eq.trans (s_ior f_218_72) ?_
      refine Eq.trans (s_istoren f_218_73 rfl) ?_
      refine Eq.trans (s_iinc f_218_74 rfl rfl) ?_
      refine Eq.trans (s_goto 41 f_218_77 (by decide)) ?_
      rfl
theorem en_218 {d : Nat} (v1 : Int) (M : ZM) : E (d + 1) 218 [zR 138, zI v1] M = Q d 218 0 [zR 138, zI v1, zU, zU, zU, zU] [] M := e_in (Nat.le_of_ble_eq_true rfl)
-- DungeonBuilderModel.count(I)I
theorem q_219_0 {d : Nat} (v1 : Int) (M : ZM) : Q d 219 0 [zR 138, zI v1, zU, zU] [] M = if v1 = 0 then (Rt (some (zI (M 139 120))) M) else (if v1 = 1 then (Rt (some (zI (M 139 121))) M) else (if v1 = 2 then (Q d 219 74 [zR 138, zI v1, zI 0, zI 0] [] M) else (if v1 = 3 then (Q d 219 112 [zR 138, zI v1, zI 0, zI 0] [] M) else (if v1 = 4 then (Q d 219 150 [zR 138, zI v1, zI 0, zI 0] [] M) else (if v1 = 5 then (Q d 219 187 [zR 138, zI v1, zI 0, zI 0] [] M) else (if v1 = 6 then (Q d 219 228 [zR 138, zI v1, zI 0, zI 0] [] M) else (if v1 = 7 then (Cb (E d 218 [zR 138, zI (-1)] M) (fun v h => zrun (zevl d) 219 269 [zR 138, zI v1, zI 0, zU] (v.toList ++ []) h)) else (if v1 = 8 then (Q d 219 272 [zR 138, zI v1, zI 0, zI 0] [] M) else (if v1 = 9 then (Rt (some (zI (M 138 17))) M) else (Rt (some (zI (-102))) M)))))))))) := by
  refine Eq.trans (s_iconst f_219_0) ?_
  refine Eq.trans (s_istoren f_219_1 rfl) ?_
  refine Eq.trans (s_iloadn f_219_2 rfl) ?_
  refine Eq.trans (w_219_3) ?_
  refine ite_cg (fun h2 => ?_) (fun h2 => ?_)
  · refine Eq.trans (s_aloadn f_219_56 rfl) ?_
    refine Eq.trans (s_getR f_219_57 g_219_7 (by decide) kn_138 rf_138_0) ?_
    refine Eq.trans (s_bipush f_219_60) ?_
    refine Eq.trans (s_iald f_219_62 kn_139 ln_139) (Eq.trans (if_pos (by decide)) ?_)
    exact s_iret f_219_63 t_219
  refine ite_cg (fun h3 => ?_) (fun h3 => ?_)
  · refine Eq.trans (s_aloadn f_219_64 rfl) ?_
    refine Eq.trans (s_getR f_219_65 g_219_7 (by decide) kn_138 rf_138_0) ?_
    refine Eq.trans (s_bipush f_219_68) ?_
    refine Eq.trans (s_iald f_219_70 kn_139 ln_139) (Eq.trans (if_pos (by decide)) ?_)
    exact s_iret f_219_71 t_219
  refine ite_cg (fun h4 => ?_) (fun h4 => ?_)
  · refine Eq.trans (s_iconst f_219_72) ?_
    refine Eq.trans (s_istoren f_219_73 rfl) ?_
    rfl
  refine ite_cg (fun h5 => ?_) (fun h5 => ?_)
  · refine Eq.trans (s_iconst f_219_110) ?_
    refine Eq.trans (s_istoren f_219_111 rfl) ?_
    rfl
  refine ite_cg (fun h6 => ?_) (fun h6 => ?_)
  · refine Eq.trans (s_iconst f_219_148) ?_
    refine Eq.trans (s_istoren f_219_149 rfl) ?_
    rfl
  refine ite_cg (fun h7 => ?_) (fun h7 => ?_)
  · refine Eq.trans (s_iconst f_219_185) ?_
    refine Eq.trans (s_istoren f_219_186 rfl) ?_
    rfl
  refine ite_cg (fun h8 => ?_) (fun h8 => ?_)
  · refine Eq.trans (s_iconst f_219_226) ?_
    refine Eq.trans (s_istoren f_219_227 rfl) ?_
    rfl
  refine ite_cg (fun h9 => ?_) (fun h9 => ?_)
  · refine Eq.trans (s_aloadn f_219_264 rfl) ?_
    refine Eq.trans (s_iconst f_219_265) ?_
    exact s_call [zR 138, zI (-1)] [] f_219_266 rfl c_219_234 rfl rfl (Nat.le_of_ble_eq_true rfl) (by show (zkn SH 138 == zown 218) = true; rw [show zkn SH 138 = 10 from kn_138]; rfl)
  refine ite_cg (fun h10 => ?_) (fun h10 => ?_)
  · refine Eq.trans (s_iconst f_219_270) ?_
    refine Eq.trans (s_istoren f_219_271 rfl) ?_
    rfl
  refine ite_cg (fun h11 => ?_) (fun h11 => ?_)
  · refine Eq.trans (s_aloadn f_219_312 rfl) ?_
    refine Eq.trans (s_getI f_219_313 g_219_189 (by decide) kn_138) ?_
    exact s_iret f_219_316 t_219
  refine Eq.trans (s_bipush f_219_317) ?_
  exact s_iret f_219_319 t_219
theorem q_219_74 {d : Nat} (v1 v2 v3 : Int) (M : ZM) : Q d 219 74 [zR 138, zI v1, zI v2, zI v3] [] M = if (M 139 121) ≤ v3 then (Rt (some (zI v2)) M) else (Cb (E d 157 [zR 138, zI v3, zI 2] M) (fun v h => zrun (zevl d) 219 92 [zR 138, zI v1, zI v2, zI v3] (v.toList ++ [zI v2]) h)) := by
  refine Eq.trans (s_iloadn f_219_74 rfl) ?_
  refine Eq.trans (s_aloadn f_219_75 rfl) ?_
  refine Eq.trans (s_getR f_219_76 g_219_7 (by decide) kn_138 rf_138_0) ?_
  refine Eq.trans (s_bipush f_219_79) ?_
  refine Eq.trans (s_iald f_219_81 kn_139 ln_139) (Eq.trans (if_pos (by decide)) ?_)
  refine Eq.trans (s_icmp (P := (M 139 121) ≤ v3) 108 f_219_82 (by decide) rfl) (ite_cg (fun h1 => ?_) (fun h1 => ?_))
  · refine Eq.trans (s_iloadn f_219_108 rfl) ?_
    exact s_iret f_219_109 t_219
  · refine Eq.trans (s_iloadn f_219_85 rfl) ?_
    refine Eq.trans (s_aloadn f_219_86 rfl) ?_
    refine Eq.trans (s_iloadn f_219_87 rfl) ?_
    refine Eq.trans (s_iconst f_219_88) ?_
    exact s_call [zR 138, zI v3, zI 2] [zI v2] f_219_89 rfl c_219_85 rfl rfl (Nat.le_of_ble_eq_true rfl) (by show (zkn SH 138 == zown 157) = true; rw [show zkn SH 138 = 10 from kn_138]; rfl)
theorem q_219_92 {d : Nat} (v1 v2 v3 s0 s1 : Int) (M : ZM) : Q d 219 92 [zR 138, zI v1, zI v2, zI v3] [zI s1, zI s0] M = if s1 < 0 then (Q d 219 74 [zR 138, zI v1, zI (zw (s0 + 0)), zI (zw (v3 + 1))] [] M) else (Q d 219 74 [zR 138, zI v1, zI (zw (s0 + 1)), zI (zw (v3 + 1))] [] M) := by
  refine Eq.trans (s_if (P := s1 < 0) 99 f_219_92 (by decide) rfl) (ite_cg (fun h1 => ?_) (fun h1 => ?_))
  · refine Eq.trans (s_iconst f_219_99) ?_
    refine Eq.trans (s_iadd f_219_100) ?_
    refine Eq.trans (s_istoren f_219_101 rfl) ?_
    refine Eq.trans (s_iinc f_219_102 rfl rfl) ?_
    refine Eq.trans (s_goto 74 f_219_105 (by decide)) ?_
    rfl
  · refine Eq.trans (s_iconst f_219_95) ?_
    refine Eq.trans (s_goto 100 f_219_96 (by decide)) ?_
    refine Eq.trans (s_iadd f_219_100) ?_
    refine Eq.trans (s_istoren f_219_101 rfl) ?_
    refine Eq.trans (s_iinc f_219_102 rfl rfl) ?_
    refine Eq.trans (s_goto 74 f_219_105 (by decide)) ?_
    rfl
theorem q_219_112 {d : Nat} (v1 v2 v3 : Int) (M : ZM) : Q d 219 112 [zR 138, zI v1, zI v2, zI v3] [] M = if (M 139 120) ≤ v3 then (Rt (some (zI v2)) M) else (Cb (E d 156 [zR 138, zI v3, zI 4] M) (fun v h => zrun (zevl d) 219 130 [zR 138, zI v1, zI v2, zI v3] (v.toList ++ [zI v2]) h)) := by
  refine Eq.trans (s_iloadn f_219_112 rfl) ?_
  refine Eq.trans (s_aloadn f_219_113 rfl) ?_
  refine Eq.trans (s_getR f_219_114 g_219_7 (by decide) kn_138 rf_138_0) ?_
  refine Eq.trans (s_bipush f_219_117) ?_
  refine Eq.trans (s_iald f_219_119 kn_139 ln_139) (Eq.trans (if_pos (by decide)) ?_)
  refine Eq.trans (s_icmp (P := (M 139 120) ≤ v3) 146 f_219_120 (by decide) rfl) (ite_cg (fun h1 => ?_) (fun h1 => ?_))
  · refine Eq.trans (s_iloadn f_219_146 rfl) ?_
    exact s_iret f_219_147 t_219
  · refine Eq.trans (s_iloadn f_219_123 rfl) ?_
    refine Eq.trans (s_aloadn f_219_124 rfl) ?_
    refine Eq.trans (s_iloadn f_219_125 rfl) ?_
    refine Eq.trans (s_iconst f_219_126) ?_
    exact s_call [zR 138, zI v3, zI 4] [zI v2] f_219_127 rfl c_219_62 rfl rfl (Nat.le_of_ble_eq_true rfl) (by show (zkn SH 138 == zown 156) = true; rw [show zkn SH 138 = 10 from kn_138]; rfl)
theorem q_219_130 {d : Nat} (v1 v2 v3 s0 s1 : Int) (M : ZM) : Q d 219 130 [zR 138, zI v1, zI v2, zI v3] [zI s1, zI s0] M = if s1 < 0 then (Q d 219 112 [zR 138, zI v1, zI (zw (s0 + 0)), zI (zw (v3 + 1))] [] M) else (Q d 219 112 [zR 138, zI v1, zI (zw (s0 + 1)), zI (zw (v3 + 1))] [] M) := by
  refine Eq.trans (s_if (P := s1 < 0) 137 f_219_130 (by decide) rfl) (ite_cg (fun h1 => ?_) (fun h1 => ?_))
  · refine Eq.trans (s_iconst f_219_137) ?_
    refine Eq.trans (s_iadd f_219_138) ?_
    refine Eq.trans (s_istoren f_219_139 rfl) ?_
    refine Eq.trans (s_iinc f_219_140 rfl rfl) ?_
    refine Eq.trans (s_goto 112 f_219_143 (by decide)) ?_
    rfl
  · refine Eq.trans (s_iconst f_219_133) ?_
    refine Eq.trans (s_goto 138 f_219_134 (by decide)) ?_
    refine Eq.trans (s_iadd f_219_138) ?_
    refine Eq.trans (s_istoren f_219_139 rfl) ?_
    refine Eq.trans (s_iinc f_219_140 rfl rfl) ?_
    refine Eq.trans (s_goto 112 f_219_143 (by decide)) ?_
    rfl
theorem q_219_150 {d : Nat} (v1 v2 v3 : Int) (M : ZM) : Q d 219 150 [zR 138, zI v1, zI v2, zI v3] [] M = if (M 139 120) ≤ v3 then (Rt (some (zI v2)) M) else (Cb (E d 156 [zR 138, zI v3, zI 2] M) (fun v h => zrun (zevl d) 219 168 [zR 138, zI v1, zI v2, zI v3] (v.toList ++ [zI v2]) h)) := by
  refine Eq.trans (s_iloadn f_219_150 rfl) ?_
  refine Eq.trans (s_aloadn f_219_151 rfl) ?_
  refine Eq.trans (s_getR f_219_152 g_219_7 (by decide) kn_138 rf_138_0) ?_
  refine Eq.trans (s_bipush f_219_155) ?_
  refine Eq.trans (s_iald f_219_157 kn_139 ln_139) (Eq.trans (if_pos (by decide)) ?_)
  refine Eq.trans (s_icmp (P := (M 139 120) ≤ v3) 183 f_219_158 (by decide) rfl) (ite_cg (fun h1 => ?_) (fun h1 => ?_))
  · refine Eq.trans (s_iloadn f_219_183 rfl) ?_
    exact s_iret f_219_184 t_219
  · refine Eq.trans (s_iloadn f_219_161 rfl) ?_
    refine Eq.trans (s_aloadn f_219_162 rfl) ?_
    refine Eq.trans (s_iloadn f_219_163 rfl) ?_
    refine Eq.trans (s_iconst f_219_164) ?_
    exact s_call [zR 138, zI v3, zI 2] [zI v2] f_219_165 rfl c_219_62 rfl rfl (Nat.le_of_ble_eq_true rfl) (by show (zkn SH 138 == zown 156) = true; rw [show zkn SH 138 = 10 from kn_138]; rfl)
theorem q_219_168 {d : Nat} (v1 v2 v3 s0 s1 : Int) (M : ZM) : Q d 219 168 [zR 138, zI v1, zI v2, zI v3] [zI s1, zI s0] M = Cb (E d 156 [zR 138, zI v3, zI 3] M) (fun v h => zrun (zevl d) 219 174 [zR 138, zI v1, zI v2, zI v3] (v.toList ++ [zI s1, zI s0]) h) := by
  refine Eq.trans (s_aloadn f_219_168 rfl) ?_
  refine Eq.trans (s_iloadn f_219_169 rfl) ?_
  refine Eq.trans (s_iconst f_219_170) ?_
  exact s_call [zR 138, zI v3, zI 3] [zI s1, zI s0] f_219_171 rfl c_219_62 rfl rfl (Nat.le_of_ble_eq_true rfl) (by show (zkn SH 138 == zown 156) = true; rw [show zkn SH 138 = 10 from kn_138]; rfl)
theorem q_219_174 {d : Nat} (v1 v2 v3 s0 s1 s2 : Int) (M : ZM) : Q d 219 174 [zR 138, zI v1, zI v2, zI v3] [zI s2, zI s1, zI s0] M = Q d 219 150 [zR 138, zI v1, zI (zw (s0 + (zw (s1 * s2)))), zI (zw (v3 + 1))] [] M := by
  refine Eq.trans (s_imul f_219_174) ?_
  refine Eq.trans (s_iadd f_219_175) ?_
  refine Eq.trans (s_istoren f_219_176 rfl) ?_
  refine Eq.trans (s_iinc f_219_177 rfl rfl) ?_
  refine Eq.trans (s_goto 150 f_219_180 (by decide)) ?_
  rfl
theorem q_219_187 {d : Nat} (v1 v2 v3 : Int) (M : ZM) : Q d 219 187 [zR 138, zI v1, zI v2, zI v3] [] M = if 384 ≤ v3 then (Rt (some (zI v2)) M) else (Cb (E d 211 [zR 138, zI ((v3).tmod 24), zI (zw ((v3).tdiv 24)), zI 0] M) (fun v h => zrun (zevl d) 219 208 [zR 138, zI v1, zI v2, zI v3] (v.toList ++ [zI v2]) h)) := by
  refine Eq.trans (s_iloadn f_219_187 rfl) ?_
  refine Eq.trans (s_sipush f_219_188) ?_
  refine Eq.trans (s_icmp (P := 384 ≤ v3) 224 f_219_191 (by decide) rfl) (ite_cg (fun h1 => ?_) (fun h1 => ?_))
  · refine Eq.trans (s_iloadn f_219_224 rfl) ?_
    exact s_iret f_219_225 t_219
  · refine Eq.trans (s_iloadn f_219_194 rfl) ?_
    refine Eq.trans (s_aloadn f_219_195 rfl) ?_
    refine Eq.trans (s_iloadn f_219_196 rfl) ?_
    refine Eq.trans (s_bipush f_219_197) ?_
    refine Eq.trans (s_irem f_219_199) (Eq.trans (if_pos (by decide)) ?_)
    refine Eq.trans (s_iloadn f_219_200 rfl) ?_
    refine Eq.trans (s_bipush f_219_201) ?_
    refine Eq.trans (s_idiv f_219_203) (Eq.trans (if_pos (by decide)) ?_)
    refine Eq.trans (s_iconst f_219_204) ?_
    exact s_call [zR 138, zI ((v3).tmod 24), zI (zw ((v3).tdiv 24)), zI 0] [zI v2] f_219_205 rfl c_219_224 rfl rfl (Nat.le_of_ble_eq_true rfl) (by show (zkn SH 138 == zown 211) = true; rw [show zkn SH 138 = 10 from kn_138]; rfl)
theorem q_219_208 {d : Nat} (v1 v2 v3 s0 s1 : Int) (M : ZM) : Q d 219 208 [zR 138, zI v1, zI v2, zI v3] [zI s1, zI s0] M = if s1 < 0 then (Q d 219 187 [zR 138, zI v1, zI (zw (s0 + 0)), zI (zw (v3 + 1))] [] M) else (Q d 219 187 [zR 138, zI v1, zI (zw (s0 + 1)), zI (zw (v3 + 1))] [] M) := by
  refine Eq.trans (s_if (P := s1 < 0) 215 f_219_208 (by decide) rfl) (ite_cg (fun h1 => ?_) (fun h1 => ?_))
  · refine Eq.trans (s_iconst f_219_215) ?_
    refine Eq.trans (s_iadd f_219_216) ?_
    refine Eq.trans (s_istoren f_219_217 rfl) ?_
    refine Eq.trans (s_iinc f_219_218 rfl rfl) ?_
    refine Eq.trans (s_goto 187 f_219_221 (by decide)) ?_
    rfl
  · refine Eq.trans (s_iconst f_219_211) ?_
    refine Eq.trans (s_goto 216 f_219_212 (by decide)) ?_
    refine Eq.trans (s_iadd f_219_216) ?_
    refine Eq.trans (s_istoren f_219_217 rfl) ?_
    refine Eq.trans (s_iinc f_219_218 rfl rfl) ?_
    refine Eq.trans (s_goto 187 f_219_221 (by decide)) ?_
    rfl
theorem q_219_228 {d : Nat} (v1 v2 v3 : Int) (M : ZM) : Q d 219 228 [zR 138, zI v1, zI v2, zI v3] [] M = if (M 139 120) ≤ v3 then (Rt (some (zI v2)) M) else (Cb (E d 189 [zR 138, zI v3] M) (fun v h => zrun (zevl d) 219 245 [zR 138, zI v1, zI v2, zI v3] (v.toList ++ [zI v2]) h)) := by
  refine Eq.trans (s_iloadn f_219_228 rfl) ?_
  refine Eq.trans (s_aloadn f_219_229 rfl) ?_
  refine Eq.trans (s_getR f_219_230 g_219_7 (by decide) kn_138 rf_138_0) ?_
  refine Eq.trans (s_bipush f_219_233) ?_
  refine Eq.trans (s_iald f_219_235 kn_139 ln_139) (Eq.trans (if_pos (by decide)) ?_)
  refine Eq.trans (s_icmp (P := (M 139 120) ≤ v3) 262 f_219_236 (by decide) rfl) (ite_cg (fun h1 => ?_) (fun h1 => ?_))
  · refine Eq.trans (s_iloadn f_219_262 rfl) ?_
    exact s_iret f_219_263 t_219
  · refine Eq.trans (s_iloadn f_219_239 rfl) ?_
    refine Eq.trans (s_aloadn f_219_240 rfl) ?_
    refine Eq.trans (s_iloadn f_219_241 rfl) ?_
    exact s_call [zR 138, zI v3] [zI v2] f_219_242 rfl c_219_161 rfl rfl (Nat.le_of_ble_eq_true rfl) (by show (zkn SH 138 == zown 189) = true; rw [show zkn SH 138 = 10 from kn_138]; rfl)
theorem q_219_245 {d : Nat} (v1 v2 v3 s0 s1 : Int) (M : ZM) : Q d 219 245 [zR 138, zI v1, zI v2, zI v3] [zI s1, zI s0] M = if s1 ≠ 1 then (Q d 219 228 [zR 138, zI v1, zI (zw (s0 + 0)), zI (zw (v3 + 1))] [] M) else (Q d 219 228 [zR 138, zI v1, zI (zw (s0 + 1)), zI (zw (v3 + 1))] [] M) := by
  refine Eq.trans (s_iconst f_219_245) ?_
  refine Eq.trans (s_icmp (P := s1 ≠ 1) 253 f_219_246 (by decide) rfl) (ite_cg (fun h1 => ?_) (fun h1 => ?_))
  · refine Eq.trans (s_iconst f_219_253) ?_
    refine Eq.trans (s_iadd f_219_254) ?_
    refine Eq.trans (s_istoren f_219_255 rfl) ?_
    refine Eq.trans (s_iinc f_219_256 rfl rfl) ?_
    refine Eq.trans (s_goto 228 f_219_259 (by decide)) ?_
    rfl
  · refine Eq.trans (s_iconst f_219_249) ?_
    refine Eq.trans (s_goto 254 f_219_250 (by decide)) ?_
    refine Eq.trans (s_iadd f_219_254) ?_
    refine Eq.trans (s_istoren f_219_255 rfl) ?_
    refine Eq.trans (s_iinc f_219_256 rfl rfl) ?_
    refine Eq.trans (s_goto 228 f_219_259 (by decide)) ?_
    rfl
theorem q_219_269 {d : Nat} (v1 v2 s0 : Int) (M : ZM) : Q d 219 269 [zR 138, zI v1, zI v2, zU] [zI s0] M = Rt (some (zI s0)) M := by
  exact s_iret f_219_269 t_219
theorem q_219_272 {d : Nat} (v1 v2 v3 : Int) (M : ZM) : Q d 219 272 [zR 138, zI v1, zI v2, zI v3] [] M = if (M 139 121) ≤ v3 then (Rt (some (zI v2)) M) else (Cb (E d 218 [zR 138, zI v3] M) (fun v h => zrun (zevl d) 219 289 [zR 138, zI v1, zI v2, zI v3] (v.toList ++ [zI v2]) h)) := by
  refine Eq.trans (s_iloadn f_219_272 rfl) ?_
  refine Eq.trans (s_aloadn f_219_273 rfl) ?_
  refine Eq.trans (s_getR f_219_274 g_219_7 (by decide) kn_138 rf_138_0) ?_
  refine Eq.trans (s_bipush f_219_277) ?_
  refine Eq.trans (s_iald f_219_279 kn_139 ln_139) (Eq.trans (if_pos (by decide)) ?_)
  refine Eq.trans (s_icmp (P := (M 139 121) ≤ v3) 310 f_219_280 (by decide) rfl) (ite_cg (fun h1 => ?_) (fun h1 => ?_))
  · refine Eq.trans (s_iloadn f_219_310 rfl) ?_
    exact s_iret f_219_311 t_219
  · refine Eq.trans (s_iloadn f_219_283 rfl) ?_
    refine Eq.trans (s_aloadn f_219_284 rfl) ?_
    refine Eq.trans (s_iloadn f_219_285 rfl) ?_
    exact s_call [zR 138, zI v3] [zI v2] f_219_286 rfl c_219_234 rfl rfl (Nat.le_of_ble_eq_true rfl) (by show (zkn SH 138 == zown 218) = true; rw [show zkn SH 138 = 10 from kn_138]; rfl)
theorem q_219_289 {d : Nat} (v1 v2 v3 s0 s1 : Int) (M : ZM) : Q d 219 289 [zR 138, zI v1, zI v2, zI v3] [zI s1, zI s0] M = Cb (E d 218 [zR 138, zI (-1)] M) (fun v h => zrun (zevl d) 219 294 [zR 138, zI v1, zI v2, zI v3] (v.toList ++ [zI s1, zI s0]) h) := by
  refine Eq.trans (s_aloadn f_219_289 rfl) ?_
  refine Eq.trans (s_iconst f_219_290) ?_
  exact s_call [zR 138, zI (-1)] [zI s1, zI s0] f_219_291 rfl c_219_234 rfl rfl (Nat.le_of_ble_eq_true rfl) (by show (zkn SH 138 == zown 218) = true; rw [show zkn SH 138 = 10 from kn_138]; rfl)
theorem q_219_294 {d : Nat} (v1 v2 v3 s0 s1 s2 : Int) (M : ZM) : Q d 219 294 [zR 138, zI v1, zI v2, zI v3] [zI s2, zI s1, zI s0] M = if s1 ≤ s2 then (Q d 219 272 [zR 138, zI v1, zI (zw (s0 + 0)), zI (zw (v3 + 1))] [] M) else (Q d 219 272 [zR 138, zI v1, zI (zw (s0 + 1)), zI (zw (v3 + 1))] [] M) := by
  refine Eq.trans (s_icmp (P := s1 ≤ s2) 301 f_219_294 (by decide) rfl) (ite_cg (fun h1 => ?_) (fun h1 => ?_))
  · refine Eq.trans (s_iconst f_219_301) ?_
    refine Eq.trans (s_iadd f_219_302) ?_
    refine Eq.trans (s_istoren f_219_303 rfl) ?_
    refine Eq.trans (s_iinc f_219_304 rfl rfl) ?_
    refine Eq.trans (s_goto 272 f_219_307 (by decide)) ?_
    rfl
  · refine Eq.trans (s_iconst f_219_297) ?_
    refine Eq.trans (s_goto 302 f_219_298 (by decide)) ?_
    refine Eq.trans (s_iadd f_219_302) ?_
    refine Eq.trans (s_istoren f_219_303 rfl) ?_
    refine Eq.trans (s_iinc f_219_304 rfl rfl) ?_
    refine Eq.trans (s_goto 272 f_219_307 (by decide)) ?_
    rfl
theorem en_219 {d : Nat} (v1 : Int) (M : ZM) : E (d + 1) 219 [zR 138, zI v1] M = Q d 219 0 [zR 138, zI v1, zU, zU] [] M := e_in (Nat.le_of_ble_eq_true rfl)
-- DungeonBuilderModel.room(II)I
theorem q_220_0 {d : Nat} (v1 v2 : Int) (M : ZM) : Q d 220 0 [zR 138, zI v1, zI v2] [] M = Cb (E d 154 [zR 138, zI v1] M) (fun v h => zrun (zevl d) 220 5 [zR 138, zI v1, zI v2] (v.toList ++ []) h) := by
  refine Eq.trans (s_aloadn f_220_0 rfl) ?_
  refine Eq.trans (s_iloadn f_220_1 rfl) ?_
  exact s_call [zR 138, zI v1] [] f_220_2 rfl c_220_88 rfl rfl (Nat.le_of_ble_eq_true rfl) (by show (zkn SH 138 == zown 154) = true; rw [show zkn SH 138 = 10 from kn_138]; rfl)
theorem q_220_5 {d : Nat} (v1 v2 s0 : Int) (M : ZM) : Q d 220 5 [zR 138, zI v1, zI v2] [zI s0] M = if s0 ≠ 0 then (if v2 = 0 then (Cb (E d 156 [zR 138, zI v1, zI v2] M) (fun v h => zrun (zevl d) 220 66 [zR 138, zI v1, zI v2] (v.toList ++ []) h)) else (if v2 = 1 then (Cb (E d 156 [zR 138, zI v1, zI v2] M) (fun v h => zrun (zevl d) 220 66 [zR 138, zI v1, zI v2] (v.toList ++ []) h)) else (if v2 = 2 then (Cb (E d 156 [zR 138, zI v1, zI v2] M) (fun v h => zrun (zevl d) 220 66 [zR 138, zI v1, zI v2] (v.toList ++ []) h)) else (if v2 = 3 then (Cb (E d 156 [zR 138, zI v1, zI v2] M) (fun v h => zrun (zevl d) 220 66 [zR 138, zI v1, zI v2] (v.toList ++ []) h)) else (if v2 = 4 then (Cb (E d 156 [zR 138, zI v1, zI 4] M) (fun v h => zrun (zevl d) 220 73 [zR 138, zI v1, zI v2] (v.toList ++ []) h)) else (if v2 = 5 then (Cb (E d 189 [zR 138, zI v1] M) (fun v h => zrun (zevl d) 220 82 [zR 138, zI v1, zI v2] (v.toList ++ []) h)) else (if v2 = 6 then (Cb (E d 158 [zR 138, zI v1] M) (fun v h => zrun (zevl d) 220 88 [zR 138, zI v1, zI v2] (v.toList ++ []) h)) else (if v2 = 7 then (Cb (E d 159 [zR 138, zI v1] M) (fun v h => zrun (zevl d) 220 94 [zR 138, zI v1, zI v2] (v.toList ++ []) h)) else (Rt (some (zI (-102))) M))))))))) else (Rt (some (zI (-101))) M) := by
  refine Eq.trans (s_if (P := s0 ≠ 0) 11 f_220_5 (by decide) rfl) (ite_cg (fun h1 => ?_) (fun h1 => ?_))
  · refine Eq.trans (s_iloadn f_220_11 rfl) ?_
    refine Eq.trans (w_220_12) ?_
    refine ite_cg (fun h3 => ?_) (fun h3 => ?_)
    · refine Eq.trans (s_aloadn f_220_60 rfl) ?_
      refine Eq.trans (s_iloadn f_220_61 rfl) ?_
      refine Eq.trans (s_iloadn f_220_62 rfl) ?_
      exact s_call [zR 138, zI v1, zI v2] [] f_220_63 rfl c_220_62 rfl rfl (Nat.le_of_ble_eq_true rfl) (by show (zkn SH 138 == zown 156) = true; rw [show zkn SH 138 = 10 from kn_138]; rfl)
    refine ite_cg (fun h4 => ?_) (fun h4 => ?_)
    · refine Eq.trans (s_aloadn f_220_60 rfl) ?_
      refine Eq.trans (s_iloadn f_220_61 rfl) ?_
      refine Eq.trans (s_iloadn f_220_62 rfl) ?_
      exact s_call [zR 138, zI v1, zI v2] [] f_220_63 rfl c_220_62 rfl rfl (Nat.le_of_ble_eq_true rfl) (by show (zkn SH 138 == zown 156) = true; rw [show zkn SH 138 = 10 from kn_138]; rfl)
    refine ite_cg (fun h5 => ?_) (fun h5 => ?_)
    · refine Eq.trans (s_aloadn f_220_60 rfl) ?_
      refine Eq.trans (s_iloadn f_220_61 rfl) ?_
      refine Eq.trans (s_iloadn f_220_62 rfl) ?_
      exact s_call [zR 138, zI v1, zI v2] [] f_220_63 rfl c_220_62 rfl rfl (Nat.le_of_ble_eq_true rfl) (by show (zkn SH 138 == zown 156) = true; rw [show zkn SH 138 = 10 from kn_138]; rfl)
    refine ite_cg (fun h6 => ?_) (fun h6 => ?_)
    · refine Eq.trans (s_aloadn f_220_60 rfl) ?_
      refine Eq.trans (s_iloadn f_220_61 rfl) ?_
      refine Eq.trans (s_iloadn f_220_62 rfl) ?_
      exact s_call [zR 138, zI v1, zI v2] [] f_220_63 rfl c_220_62 rfl rfl (Nat.le_of_ble_eq_true rfl) (by show (zkn SH 138 == zown 156) = true; rw [show zkn SH 138 = 10 from kn_138]; rfl)
    refine ite_cg (fun h7 => ?_) (fun h7 => ?_)
    · refine Eq.trans (s_aloadn f_220_67 rfl) ?_
      refine Eq.trans (s_iloadn f_220_68 rfl) ?_
      refine Eq.trans (s_iconst f_220_69) ?_
      exact s_call [zR 138, zI v1, zI 4] [] f_220_70 rfl c_220_62 rfl rfl (Nat.le_of_ble_eq_true rfl) (by show (zkn SH 138 == zown 156) = true; rw [show zkn SH 138 = 10 from kn_138]; rfl)
    refine ite_cg (fun h8 => ?_) (fun h8 => ?_)
    · refine Eq.trans (s_aloadn f_220_77 rfl) ?_
      refine Eq.trans (s_iloadn f_220_78 rfl) ?_
      exact s_call [zR 138, zI v1] [] f_220_79 rfl c_220_161 rfl rfl (Nat.le_of_ble_eq_true rfl) (by show (zkn SH 138 == zown 189) = true; rw [show zkn SH 138 = 10 from kn_138]; rfl)
    refine ite_cg (fun h9 => ?_) (fun h9 => ?_)
    · refine Eq.trans (s_aloadn f_220_83 rfl) ?_
      refine Eq.trans (s_iloadn f_220_84 rfl) ?_
      exact s_call [zR 138, zI v1] [] f_220_85 rfl c_220_66 rfl rfl (Nat.le_of_ble_eq_true rfl) (by show (zkn SH 138 == zown 158) = true; rw [show zkn SH 138 = 10 from kn_138]; rfl)
    refine ite_cg (fun h10 => ?_) (fun h10 => ?_)
    · refine Eq.trans (s_aloadn f_220_89 rfl) ?_
      refine Eq.trans (s_iloadn f_220_90 rfl) ?_
      exact s_call [zR 138, zI v1] [] f_220_91 rfl c_220_73 rfl rfl (Nat.le_of_ble_eq_true rfl) (by show (zkn SH 138 == zown 159) = true; rw [show zkn SH 138 = 10 from kn_138]; rfl)
    refine Eq.trans (s_bipush f_220_95) ?_
    exact s_iret f_220_97 t_220
  · refine Eq.trans (s_bipush f_220_8) ?_
    exact s_iret f_220_10 t_220
theorem q_220_66 {d : Nat} (v1 v2 s0 : Int) (M : ZM) : Q d 220 66 [zR 138, zI v1, zI v2] [zI s0] M = Rt (some (zI s0)) M := by
  exact s_iret f_220_66 t_220
theorem q_220_73 {d : Nat} (v1 v2 s0 : Int) (M : ZM) : Q d 220 73 [zR 138, zI v1, zI v2] [zI s0] M = Cb (E d 169 [zI s0] M) (fun v h => zrun (zevl d) 220 76 [zR 138, zI v1, zI v2] (v.toList ++ []) h) := by
  exact s_call [zI s0] [] f_220_73 rfl c_220_98 rfl rfl (Nat.le_of_ble_eq_true rfl) rfl
theorem q_220_76 {d : Nat} (v1 v2 s0 : Int) (M : ZM) : Q d 220 76 [zR 138, zI v1, zI v2] [zI s0] M = Rt (some (zI s0)) M := by
  exact s_iret f_220_76 t_220
theorem q_220_82 {d : Nat} (v1 v2 s0 : Int) (M : ZM) : Q d 220 82 [zR 138, zI v1, zI v2] [zI s0] M = Rt (some (zI s0)) M := by
  exact s_iret f_220_82 t_220
theorem q_220_88 {d : Nat} (v1 v2 s0 : Int) (M : ZM) : Q d 220 88 [zR 138, zI v1, zI v2] [zI s0] M = Rt (some (zI s0)) M := by
  exact s_iret f_220_88 t_220
theorem q_220_94 {d : Nat} (v1 v2 s0 : Int) (M : ZM) : Q d 220 94 [zR 138, zI v1, zI v2] [zI s0] M = Rt (some (zI s0)) M := by
  exact s_iret f_220_94 t_220
theorem en_220 {d : Nat} (v1 v2 : Int) (M : ZM) : E (d + 1) 220 [zR 138, zI v1, zI v2] M = Q d 220 0 [zR 138, zI v1, zI v2] [] M := e_in (Nat.le_of_ble_eq_true rfl)
-- DungeonBuilderModel.corridor(II)I
theorem q_221_0 {d : Nat} (v1 v2 : Int) (M : ZM) : Q d 221 0 [zR 138, zI v1, zI v2] [] M = Cb (E d 155 [zR 138, zI v1] M) (fun v h => zrun (zevl d) 221 5 [zR 138, zI v1, zI v2] (v.toList ++ []) h) := by
  refine Eq.trans (s_aloadn f_221_0 rfl) ?_
  refine Eq.trans (s_iloadn f_221_1 rfl) ?_
  exact s_call [zR 138, zI v1] [] f_221_2 rfl c_221_95 rfl rfl (Nat.le_of_ble_eq_true rfl) (by show (zkn SH 138 == zown 155) = true; rw [show zkn SH 138 = 10 from kn_138]; rfl)
theorem q_221_5 {d : Nat} (v1 v2 s0 : Int) (M : ZM) : Q d 221 5 [zR 138, zI v1, zI v2] [zI s0] M = if s0 ≠ 0 then (if v2 = 0 then (Cb (E d 157 [zR 138, zI v1, zI v2] M) (fun v h => zrun (zevl d) 221 50 [zR 138, zI v1, zI v2] (v.toList ++ []) h)) else (if v2 = 1 then (Cb (E d 157 [zR 138, zI v1, zI v2] M) (fun v h => zrun (zevl d) 221 50 [zR 138, zI v1, zI v2] (v.toList ++ []) h)) else (if v2 = 2 then (Cb (E d 157 [zR 138, zI v1, zI 2] M) (fun v h => zrun (zevl d) 221 57 [zR 138, zI v1, zI v2] (v.toList ++ []) h)) else (if v2 = 3 then (Cb (E d 212 [zR 138, zI v1] M) (fun v h => zrun (zevl d) 221 66 [zR 138, zI v1, zI v2] (v.toList ++ []) h)) else (Rt (some (zI (-102))) M))))) else (Rt (some (zI (-101))) M) := by
  refine Eq.trans (s_if (P := s0 ≠ 0) 11 f_221_5 (by decide) rfl) (ite_cg (fun h1 => ?_) (fun h1 => ?_))
  · refine Eq.trans (s_iloadn f_221_11 rfl) ?_
    refine Eq.trans (w_221_12) ?_
    refine ite_cg (fun h3 => ?_) (fun h3 => ?_)
    · refine Eq.trans (s_aloadn f_221_44 rfl) ?_
      refine Eq.trans (s_iloadn f_221_45 rfl) ?_
      refine Eq.trans (s_iloadn f_221_46 rfl) ?_
      exact s_call [zR 138, zI v1, zI v2] [] f_221_47 rfl c_221_85 rfl rfl (Nat.le_of_ble_eq_true rfl) (by show (zkn SH 138 == zown 157) = true; rw [show zkn SH 138 = 10 from kn_138]; rfl)
    refine ite_cg (fun h4 => ?_) (fun h4 => ?_)
    · refine Eq.trans (s_aloadn f_221_44 rfl) ?_
      refine Eq.trans (s_iloadn f_221_45 rfl) ?_
      refine Eq.trans (s_iloadn f_221_46 rfl) ?_
      exact s_call [zR 138, zI v1, zI v2] [] f_221_47 rfl c_221_85 rfl rfl (Nat.le_of_ble_eq_true rfl) (by show (zkn SH 138 == zown 157) = true; rw [show zkn SH 138 = 10 from kn_138]; rfl)
    refine ite_cg (fun h5 => ?_) (fun h5 => ?_)
    · refine Eq.trans (s_aloadn f_221_51 rfl) ?_
      refine Eq.trans (s_iloadn f_221_52 rfl) ?_
      refine Eq.trans (s_iconst f_221_53) ?_
      exact s_call [zR 138, zI v1, zI 2] [] f_221_54 rfl c_221_85 rfl rfl (Nat.le_of_ble_eq_true rfl) (by show (zkn SH 138 == zown 157) = true; rw [show zkn SH 138 = 10 from kn_138]; rfl)
    refine ite_cg (fun h6 => ?_) (fun h6 => ?_)
    · refine Eq.trans (s_aloadn f_221_61 rfl) ?_
      refine Eq.trans (s_iloadn f_221_62 rfl) ?_
      exact s_call [zR 138, zI v1] [] f_221_63 rfl c_221_237 rfl rfl (Nat.le_of_ble_eq_true rfl) (by show (zkn SH 138 == zown 212) = true; rw [show zkn SH 138 = 10 from kn_138]; rfl)
    refine Eq.trans (s_bipush f_221_67) ?_
    exact s_iret f_221_69 t_221
  · refine Eq.trans (s_bipush f_221_8) ?_
    exact s_iret f_221_10 t_221
theorem q_221_50 {d : Nat} (v1 v2 s0 : Int) (M : ZM) : Q d 221 50 [zR 138, zI v1, zI v2] [zI s0] M = Rt (some (zI s0)) M := by
  exact s_iret f_221_50 t_221
theorem q_221_57 {d : Nat} (v1 v2 s0 : Int) (M : ZM) : Q d 221 57 [zR 138, zI v1, zI v2] [zI s0] M = Cb (E d 169 [zI s0] M) (fun v h => zrun (zevl d) 221 60 [zR 138, zI v1, zI v2] (v.toList ++ []) h) := by
  exact s_call [zI s0] [] f_221_57 rfl c_221_98 rfl rfl (Nat.le_of_ble_eq_true rfl) rfl
theorem q_221_60 {d : Nat} (v1 v2 s0 : Int) (M : ZM) : Q d 221 60 [zR 138, zI v1, zI v2] [zI s0] M = Rt (some (zI s0)) M := by
  exact s_iret f_221_60 t_221
theorem q_221_66 {d : Nat} (v1 v2 s0 : Int) (M : ZM) : Q d 221 66 [zR 138, zI v1, zI v2] [zI s0] M = Rt (some (zI s0)) M := by
  exact s_iret f_221_66 t_221
theorem en_221 {d : Nat} (v1 v2 : Int) (M : ZM) : E (d + 1) 221 [zR 138, zI v1, zI v2] M = Q d 221 0 [zR 138, zI v1, zI v2] [] M := e_in (Nat.le_of_ble_eq_true rfl)
-- DungeonBuilderModel.between(II)I
theorem q_222_0 {d : Nat} (v1 v2 : Int) (M : ZM) : Q d 222 0 [zR 138, zI v1, zI v2] [] M = Cb (E d 154 [zR 138, zI v1] M) (fun v h => zrun (zevl d) 222 5 [zR 138, zI v1, zI v2] (v.toList ++ []) h) := by
  refine Eq.trans (s_aloadn f_222_0 rfl) ?_
  refine Eq.trans (s_iloadn f_222_1 rfl) ?_
  exact s_call [zR 138, zI v1] [] f_222_2 rfl c_222_88 rfl rfl (Nat.le_of_ble_eq_true rfl) (by show (zkn SH 138 == zown 154) = true; rw [show zkn SH 138 = 10 from kn_138]; rfl)
theorem q_222_5 {d : Nat} (v1 v2 s0 : Int) (M : ZM) : Q d 222 5 [zR 138, zI v1, zI v2] [zI s0] M = if s0 = 0 then (Rt (some (zI (-101))) M) else (Cb (E d 154 [zR 138, zI v2] M) (fun v h => zrun (zevl d) 222 13 [zR 138, zI v1, zI v2] (v.toList ++ []) h)) := by
  refine Eq.trans (s_if (P := s0 = 0) 28 f_222_5 (by decide) rfl) (ite_cg (fun h1 => ?_) (fun h1 => ?_))
  · refine Eq.trans (s_bipush f_222_28) ?_
    exact s_iret f_222_30 t_222
  · refine Eq.trans (s_aloadn f_222_8 rfl) ?_
    refine Eq.trans (s_iloadn f_222_9 rfl) ?_
    exact s_call [zR 138, zI v2] [] f_222_10 rfl c_222_88 rfl rfl (Nat.le_of_ble_eq_true rfl) (by show (zkn SH 138 == zown 154) = true; rw [show zkn SH 138 = 10 from kn_138]; rfl)
theorem q_222_13 {d : Nat} (v1 v2 s0 : Int) (M : ZM) : Q d 222 13 [zR 138, zI v1, zI v2] [zI s0] M = if s0 = 0 then (Rt (some (zI (-101))) M) else (Cb (E d 167 [zR 138, zI v1, zI v2] M) (fun v h => zrun (zevl d) 222 22 [zR 138, zI v1, zI v2] (v.toList ++ []) h)) := by
  refine Eq.trans (s_if (P := s0 = 0) 28 f_222_13 (by decide) rfl) (ite_cg (fun h1 => ?_) (fun h1 => ?_))
  · refine Eq.trans (s_bipush f_222_28) ?_
    exact s_iret f_222_30 t_222
  · refine Eq.trans (s_aloadn f_222_16 rfl) ?_
    refine Eq.trans (s_iloadn f_222_17 rfl) ?_
    refine Eq.trans (s_iloadn f_222_18 rfl) ?_
    exact s_call [zR 138, zI v1, zI v2] [] f_222_19 rfl c_222_92 rfl rfl (Nat.le_of_ble_eq_true rfl) (by show (zkn SH 138 == zown 167) = true; rw [show zkn SH 138 = 10 from kn_138]; rfl)
theorem q_222_22 {d : Nat} (v1 v2 s0 : Int) (M : ZM) : Q d 222 22 [zR 138, zI v1, zI v2] [zI s0] M = Cb (E d 169 [zI s0] M) (fun v h => zrun (zevl d) 222 25 [zR 138, zI v1, zI v2] (v.toList ++ []) h) := by
  exact s_call [zI s0] [] f_222_22 rfl c_222_98 rfl rfl (Nat.le_of_ble_eq_true rfl) rfl
theorem q_222_25 {d : Nat} (v1 v2 s0 : Int) (M : ZM) : Q d 222 25 [zR 138, zI v1, zI v2] [zI s0] M = Rt (some (zI s0)) M := by
  refine Eq.trans (s_goto 30 f_222_25 (by decide)) ?_
  exact s_iret f_222_30 t_222
theorem en_222 {d : Nat} (v1 v2 : Int) (M : ZM) : E (d + 1) 222 [zR 138, zI v1, zI v2] M = Q d 222 0 [zR 138, zI v1, zI v2] [] M := e_in (Nat.le_of_ble_eq_true rfl)
-- DungeonBuilderModel.entrance()I
theorem q_223_0 {d : Nat} (M : ZM) : Q d 223 0 [zR 138] [] M = if (M 139 120) ≠ 0 then (Rt (some (zI (M 139 122))) M) else (Rt (some (zI (-104))) M) := by
  refine Eq.trans (s_aloadn f_223_0 rfl) ?_
  refine Eq.trans (s_getR f_223_1 g_223_7 (by decide) kn_138 rf_138_0) ?_
  refine Eq.trans (s_bipush f_223_4) ?_
  refine Eq.trans (s_iald f_223_6 kn_139 ln_139) (Eq.trans (if_pos (by decide)) ?_)
  refine Eq.trans (s_if (P := (M 139 120) ≠ 0) 15 f_223_7 (by decide) rfl) (ite_cg (fun h1 => ?_) (fun h1 => ?_))
  · refine Eq.trans (s_aloadn f_223_15 rfl) ?_
    refine Eq.trans (s_getR f_223_16 g_223_7 (by decide) kn_138 rf_138_0) ?_
    refine Eq.trans (s_bipush f_223_19) ?_
    refine Eq.trans (s_iald f_223_21 kn_139 ln_139) (Eq.trans (if_pos (by decide)) ?_)
    exact s_iret f_223_22 t_223
  · refine Eq.trans (s_bipush f_223_10) ?_
    refine Eq.trans (s_goto 22 f_223_12 (by decide)) ?_
    exact s_iret f_223_22 t_223
theorem en_223 {d : Nat} (M : ZM) : E (d + 1) 223 [zR 138] M = Q d 223 0 [zR 138] [] M := e_in (Nat.le_of_ble_eq_true rfl)
-- DungeonBuilderModel.depth(I)I
theorem q_224_0 {d : Nat} (v1 : Int) (M : ZM) : Q d 224 0 [zR 138, zI v1] [] M = Cb (E d 154 [zR 138, zI v1] M) (fun v h => zrun (zevl d) 224 5 [zR 138, zI v1] (v.toList ++ []) h) := by
  refine Eq.trans (s_aloadn f_224_0 rfl) ?_
  refine Eq.trans (s_iloadn f_224_1 rfl) ?_
  exact s_call [zR 138, zI v1] [] f_224_2 rfl c_224_88 rfl rfl (Nat.le_of_ble_eq_true rfl) (by show (zkn SH 138 == zown 154) = true; rw [show zkn SH 138 = 10 from kn_138]; rfl)
theorem q_224_5 {d : Nat} (v1 s0 : Int) (M : ZM) : Q d 224 5 [zR 138, zI v1] [zI s0] M = if s0 = 0 then (Rt (some (zI (-101))) M) else (Cb (E d 188 [zR 138, zI v1] M) (fun v h => zrun (zevl d) 224 13 [zR 138, zI v1] (v.toList ++ []) h)) := by
  refine Eq.trans (s_if (P := s0 = 0) 16 f_224_5 (by decide) rfl) (ite_cg (fun h1 => ?_) (fun h1 => ?_))
  · refine Eq.trans (s_bipush f_224_16) ?_
    exact s_iret f_224_18 t_224
  · refine Eq.trans (s_aloadn f_224_8 rfl) ?_
    refine Eq.trans (s_iloadn f_224_9 rfl) ?_
    exact s_call [zR 138, zI v1] [] f_224_10 rfl c_224_158 rfl rfl (Nat.le_of_ble_eq_true rfl) (by show (zkn SH 138 == zown 188) = true; rw [show zkn SH 138 = 10 from kn_138]; rfl)
theorem q_224_13 {d : Nat} (v1 s0 : Int) (M : ZM) : Q d 224 13 [zR 138, zI v1] [zI s0] M = Rt (some (zI s0)) M := by
  refine Eq.trans (s_goto 18 f_224_13 (by decide)) ?_
  exact s_iret f_224_18 t_224
theorem en_224 {d : Nat} (v1 : Int) (M : ZM) : E (d + 1) 224 [zR 138, zI v1] M = Q d 224 0 [zR 138, zI v1] [] M := e_in (Nat.le_of_ble_eq_true rfl)
-- DungeonBuilderModel.difficulty(I)I
theorem q_225_0 {d : Nat} (v1 : Int) (M : ZM) : Q d 225 0 [zR 138, zI v1] [] M = Cb (E d 154 [zR 138, zI v1] M) (fun v h => zrun (zevl d) 225 5 [zR 138, zI v1] (v.toList ++ []) h) := by
  refine Eq.trans (s_aloadn f_225_0 rfl) ?_
  refine Eq.trans (s_iloadn f_225_1 rfl) ?_
  exact s_call [zR 138, zI v1] [] f_225_2 rfl c_225_88 rfl rfl (Nat.le_of_ble_eq_true rfl) (by show (zkn SH 138 == zown 154) = true; rw [show zkn SH 138 = 10 from kn_138]; rfl)
theorem q_225_5 {d : Nat} (v1 s0 : Int) (M : ZM) : Q d 225 5 [zR 138, zI v1] [zI s0] M = if s0 = 0 then (Rt (some (zI (-101))) M) else (Cb (E d 190 [zR 138, zI v1] M) (fun v h => zrun (zevl d) 225 13 [zR 138, zI v1] (v.toList ++ []) h)) := by
  refine Eq.trans (s_if (P := s0 = 0) 16 f_225_5 (by decide) rfl) (ite_cg (fun h1 => ?_) (fun h1 => ?_))
  · refine Eq.trans (s_bipush f_225_16) ?_
    exact s_iret f_225_18 t_225
  · refine Eq.trans (s_aloadn f_225_8 rfl) ?_
    refine Eq.trans (s_iloadn f_225_9 rfl) ?_
    exact s_call [zR 138, zI v1] [] f_225_10 rfl c_225_176 rfl rfl (Nat.le_of_ble_eq_true rfl) (by show (zkn SH 138 == zown 190) = true; rw [show zkn SH 138 = 10 from kn_138]; rfl)
theorem q_225_13 {d : Nat} (v1 s0 : Int) (M : ZM) : Q d 225 13 [zR 138, zI v1] [zI s0] M = Rt (some (zI s0)) M := by
  refine Eq.trans (s_goto 18 f_225_13 (by decide)) ?_
  exact s_iret f_225_18 t_225
theorem en_225 {d : Nat} (v1 : Int) (M : ZM) : E (d + 1) 225 [zR 138, zI v1] M = Q d 225 0 [zR 138, zI v1] [] M := e_in (Nat.le_of_ble_eq_true rfl)
-- DungeonBuilderModel.visits()I
theorem q_226_0 {d : Nat} (M : ZM) : Q d 226 0 [zR 138] [] M = Cb (E d 194 [zR 138] M) (fun v h => zrun (zevl d) 226 4 [zR 138] (v.toList ++ []) h) := by
  refine Eq.trans (s_aloadn f_226_0 rfl) ?_
  exact s_call [zR 138] [] f_226_1 rfl c_226_240 rfl rfl (Nat.le_of_ble_eq_true rfl) (by show (zkn SH 138 == zown 194) = true; rw [show zkn SH 138 = 10 from kn_138]; rfl)
theorem q_226_4 {d : Nat} (M : ZM) : Q d 226 4 [zR 138] [] M = Rt (some (zI (M 138 13))) M := by
  refine Eq.trans (s_aloadn f_226_4 rfl) ?_
  refine Eq.trans (s_getI f_226_5 g_226_167 (by decide) kn_138) ?_
  exact s_iret f_226_8 t_226
theorem en_226 {d : Nat} (M : ZM) : E (d + 1) 226 [zR 138] M = Q d 226 0 [zR 138] [] M := e_in (Nat.le_of_ble_eq_true rfl)
-- DungeonBuilderModel.visit(I)I
theorem q_227_0 {d : Nat} (v1 : Int) (M : ZM) : Q d 227 0 [zR 138, zI v1] [] M = Cb (E d 194 [zR 138] M) (fun v h => zrun (zevl d) 227 4 [zR 138, zI v1] (v.toList ++ []) h) := by
  refine Eq.trans (s_aloadn f_227_0 rfl) ?_
  exact s_call [zR 138] [] f_227_1 rfl c_227_240 rfl rfl (Nat.le_of_ble_eq_true rfl) (by show (zkn SH 138 == zown 194) = true; rw [show zkn SH 138 = 10 from kn_138]; rfl)
theorem q_227_4 {d : Nat} (v1 : Int) (M : ZM) : Q d 227 4 [zR 138, zI v1] [] M = Cb (E d 153 [zI v1, zI 0, zI (zw ((M 138 13) - 1))] M) (fun v h => zrun (zevl d) 227 15 [zR 138, zI v1] (v.toList ++ []) h) := by
  refine Eq.trans (s_iloadn f_227_4 rfl) ?_
  refine Eq.trans (s_iconst f_227_5) ?_
  refine Eq.trans (s_aloadn f_227_6 rfl) ?_
  refine Eq.trans (s_getI f_227_7 g_227_167 (by decide) kn_138) ?_
  refine Eq.trans (s_iconst f_227_10) ?_
  refine Eq.trans (s_isub f_227_11) ?_
  exact s_call [zI v1, zI 0, zI (zw ((M 138 13) - 1))] [] f_227_12 rfl c_227_58 rfl rfl (Nat.le_of_ble_eq_true rfl) rfl
theorem q_227_15 {d : Nat} (v1 s0 : Int) (M : ZM) : Q d 227 15 [zR 138, zI v1] [zI s0] M = if s0 = 0 then (Rt (some (zI (-101))) M) else (if 0 ≤ v1 ∧ v1 < 12 then Rt (some (zI (M 146 v1))) M else none) := by
  refine Eq.trans (s_if (P := s0 = 0) 27 f_227_15 (by decide) rfl) (ite_cg (fun h1 => ?_) (fun h1 => ?_))
  · refine Eq.trans (s_bipush f_227_27) ?_
    exact s_iret f_227_29 t_227
  · refine Eq.trans (s_aloadn f_227_18 rfl) ?_
    refine Eq.trans (s_getR f_227_19 g_227_31 (by decide) kn_138 rf_138_12) ?_
    refine Eq.trans (s_iloadn f_227_22 rfl) ?_
    refine Eq.trans (s_iald f_227_23 kn_146 ln_146) (gd_cg fun h2 => ?_)
    refine Eq.trans (s_goto 29 f_227_24 (by decide)) ?_
    exact s_iret f_227_29 t_227
theorem en_227 {d : Nat} (v1 : Int) (M : ZM) : E (d + 1) 227 [zR 138, zI v1] M = Q d 227 0 [zR 138, zI v1] [] M := e_in (Nat.le_of_ble_eq_true rfl)
-- DungeonBuilderModel.visitedAt(I)I
theorem q_228_0 {d : Nat} (v1 : Int) (M : ZM) : Q d 228 0 [zR 138, zI v1, zU] [] M = Cb (E d 154 [zR 138, zI v1] M) (fun v h => zrun (zevl d) 228 5 [zR 138, zI v1, zU] (v.toList ++ []) h) := by
  refine Eq.trans (s_aloadn f_228_0 rfl) ?_
  refine Eq.trans (s_iloadn f_228_1 rfl) ?_
  exact s_call [zR 138, zI v1] [] f_228_2 rfl c_228_88 rfl rfl (Nat.le_of_ble_eq_true rfl) (by show (zkn SH 138 == zown 154) = true; rw [show zkn SH 138 = 10 from kn_138]; rfl)
theorem q_228_5 {d : Nat} (v1 s0 : Int) (M : ZM) : Q d 228 5 [zR 138, zI v1, zU] [zI s0] M = if s0 ≠ 0 then (Cb (E d 194 [zR 138] M) (fun v h => zrun (zevl d) 228 15 [zR 138, zI v1, zU] (v.toList ++ []) h)) else (Rt (some (zI (-101))) M) := by
  refine Eq.trans (s_if (P := s0 ≠ 0) 11 f_228_5 (by decide) rfl) (ite_cg (fun h1 => ?_) (fun h1 => ?_))
  · refine Eq.trans (s_aloadn f_228_11 rfl) ?_
    exact s_call [zR 138] [] f_228_12 rfl c_228_240 rfl rfl (Nat.le_of_ble_eq_true rfl) (by show (zkn SH 138 == zown 194) = true; rw [show zkn SH 138 = 10 from kn_138]; rfl)
  · refine Eq.trans (s_bipush f_228_8) ?_
    exact s_iret f_228_10 t_228
theorem q_228_15 {d : Nat} (v1 : Int) (M : ZM) : Q d 228 15 [zR 138, zI v1, zU] [] M = Q d 228 17 [zR 138, zI v1, zI 0] [] M := by
  refine Eq.trans (s_iconst f_228_15) ?_
  refine Eq.trans (s_istoren f_228_16 rfl) ?_
  rfl
theorem q_228_17 {d : Nat} (v1 v2 : Int) (M : ZM) : Q d 228 17 [zR 138, zI v1, zI v2] [] M = if (M 138 13) ≤ v2 then (Rt (some (zI (-104))) M) else (if 0 ≤ v2 ∧ v2 < 12 then if (M 146 v2) ≠ v1 then (Q d 228 17 [zR 138, zI v1, zI (zw (v2 + 1))] [] M) else (Rt (some (zI v2)) M) else none) := by
  refine Eq.trans (s_iloadn f_228_17 rfl) ?_
  refine Eq.trans (s_aloadn f_228_18 rfl) ?_
  refine Eq.trans (s_getI f_228_19 g_228_167 (by decide) kn_138) ?_
  refine Eq.trans (s_icmp (P := (M 138 13) ≤ v2) 43 f_228_22 (by decide) rfl) (ite_cg (fun h1 => ?_) (fun h1 => ?_))
  · refine Eq.trans (s_bipush f_228_43) ?_
    exact s_iret f_228_45 t_228
  · refine Eq.trans (s_aloadn f_228_25 rfl) ?_
    refine Eq.trans (s_getR f_228_26 g_228_31 (by decide) kn_138 rf_138_12) ?_
    refine Eq.trans (s_iloadn f_228_29 rfl) ?_
    refine Eq.trans (s_iald f_228_30 kn_146 ln_146) (gd_cg fun h2 => ?_)
    refine Eq.trans (s_iloadn f_228_31 rfl) ?_
    refine Eq.trans (s_icmp (P := (M 146 v2) ≠ v1) 37 f_228_32 (by decide) rfl) (ite_cg (fun h3 => ?_) (fun h3 => ?_))
    · refine Eq.trans (s_iinc f_228_37 rfl rfl) ?_
      refine Eq.trans (s_goto 17 f_228_40 (by decide)) ?_
      rfl
    · refine Eq.trans (s_iloadn f_228_35 rfl) ?_
      exact s_iret f_228_36 t_228
theorem en_228 {d : Nat} (v1 : Int) (M : ZM) : E (d + 1) 228 [zR 138, zI v1] M = Q d 228 0 [zR 138, zI v1, zU] [] M := e_in (Nat.le_of_ble_eq_true rfl)
-- DungeonBuilderModel.isSolvable()I
theorem q_229_0 {d : Nat} (M : ZM) : Q d 229 0 [zR 138] [] M = Cb (E d 194 [zR 138] M) (fun v h => zrun (zevl d) 229 4 [zR 138] (v.toList ++ []) h) := by
  refine Eq.trans (s_aloadn f_229_0 rfl) ?_
  exact s_call [zR 138] [] f_229_1 rfl c_229_240 rfl rfl (Nat.le_of_ble_eq_true rfl) (by show (zkn SH 138 == zown 194) = true; rw [show zkn SH 138 = 10 from kn_138]; rfl)
theorem q_229_4 {d : Nat} (M : ZM) : Q d 229 4 [zR 138] [] M = if (M 139 120) ≠ 0 then (if (M 138 13) ≠ (M 139 120) then (Rt (some (zI 0)) M) else (Rt (some (zI 1)) M)) else (Rt (some (zI (-104))) M) := by
  refine Eq.trans (s_aloadn f_229_4 rfl) ?_
  refine Eq.trans (s_getR f_229_5 g_229_7 (by decide) kn_138 rf_138_0) ?_
  refine Eq.trans (s_bipush f_229_8) ?_
  refine Eq.trans (s_iald f_229_10 kn_139 ln_139) (Eq.trans (if_pos (by decide)) ?_)
  refine Eq.trans (s_if (P := (M 139 120) ≠ 0) 19 f_229_11 (by decide) rfl) (ite_cg (fun h1 => ?_) (fun h1 => ?_))
  · refine Eq.trans (s_aloadn f_229_19 rfl) ?_
    refine Eq.trans (s_getI f_229_20 g_229_167 (by decide) kn_138) ?_
    refine Eq.trans (s_aloadn f_229_23 rfl) ?_
    refine Eq.trans (s_getR f_229_24 g_229_7 (by decide) kn_138 rf_138_0) ?_
    refine Eq.trans (s_bipush f_229_27) ?_
    refine Eq.trans (s_iald f_229_29 kn_139 ln_139) (Eq.trans (if_pos (by decide)) ?_)
    refine Eq.trans (s_icmp (P := (M 138 13) ≠ (M 139 120)) 37 f_229_30 (by decide) rfl) (ite_cg (fun h2 => ?_) (fun h2 => ?_))
    · refine Eq.trans (s_iconst f_229_37) ?_
      exact s_iret f_229_38 t_229
    · refine Eq.trans (s_iconst f_229_33) ?_
      refine Eq.trans (s_goto 38 f_229_34 (by decide)) ?_
      exact s_iret f_229_38 t_229
  · refine Eq.trans (s_bipush f_229_14) ?_
    refine Eq.trans (s_goto 38 f_229_16 (by decide)) ?_
    exact s_iret f_229_38 t_229
theorem en_229 {d : Nat} (M : ZM) : E (d + 1) 229 [zR 138] M = Q d 229 0 [zR 138] [] M := e_in (Nat.le_of_ble_eq_true rfl)
-- DungeonBuilderModel.keysFound()I
theorem q_230_0 {d : Nat} (M : ZM) : Q d 230 0 [zR 138] [] M = Cb (E d 194 [zR 138] M) (fun v h => zrun (zevl d) 230 4 [zR 138] (v.toList ++ []) h) := by
  refine Eq.trans (s_aloadn f_230_0 rfl) ?_
  exact s_call [zR 138] [] f_230_1 rfl c_230_240 rfl rfl (Nat.le_of_ble_eq_true rfl) (by show (zkn SH 138 == zown 194) = true; rw [show zkn SH 138 = 10 from kn_138]; rfl)
theorem q_230_4 {d : Nat} (M : ZM) : Q d 230 4 [zR 138] [] M = Rt (some (zI (M 138 15))) M := by
  refine Eq.trans (s_aloadn f_230_4 rfl) ?_
  refine Eq.trans (s_getI f_230_5 g_230_164 (by decide) kn_138) ?_
  exact s_iret f_230_8 t_230
theorem en_230 {d : Nat} (M : ZM) : E (d + 1) 230 [zR 138] M = Q d 230 0 [zR 138] [] M := e_in (Nat.le_of_ble_eq_true rfl)
-- DungeonBuilderModel.needed(I)I
theorem q_231_0 {d : Nat} (v1 : Int) (M : ZM) : Q d 231 0 [zR 138, zI v1, zU, zU] [] M = Cb (E d 154 [zR 138, zI v1] M) (fun v h => zrun (zevl d) 231 5 [zR 138, zI v1, zU, zU] (v.toList ++ []) h) := by
  refine Eq.trans (s_aloadn f_231_0 rfl) ?_
  refine Eq.trans (s_iloadn f_231_1 rfl) ?_
  exact s_call [zR 138, zI v1] [] f_231_2 rfl c_231_88 rfl rfl (Nat.le_of_ble_eq_true rfl) (by show (zkn SH 138 == zown 154) = true; rw [show zkn SH 138 = 10 from kn_138]; rfl)
theorem q_231_5 {d : Nat} (v1 s0 : Int) (M : ZM) : Q d 231 5 [zR 138, zI v1, zU, zU] [zI s0] M = if s0 ≠ 0 then (Cb (E d 194 [zR 138] M) (fun v h => zrun (zevl d) 231 15 [zR 138, zI v1, zU, zU] (v.toList ++ []) h)) else (Rt (some (zI (-101))) M) := by
  refine Eq.trans (s_if (P := s0 ≠ 0) 11 f_231_5 (by decide) rfl) (ite_cg (fun h1 => ?_) (fun h1 => ?_))
  · refine Eq.trans (s_aloadn f_231_11 rfl) ?_
    exact s_call [zR 138] [] f_231_12 rfl c_231_240 rfl rfl (Nat.le_of_ble_eq_true rfl) (by show (zkn SH 138 == zown 194) = true; rw [show zkn SH 138 = 10 from kn_138]; rfl)
  · refine Eq.trans (s_bipush f_231_8) ?_
    exact s_iret f_231_10 t_231
theorem q_231_15 {d : Nat} (v1 : Int) (M : ZM) : Q d 231 15 [zR 138, zI v1, zU, zU] [] M = if 0 ≤ v1 ∧ v1 < 12 then if (M 147 v1) ≠ 0 then (Q d 231 31 [zR 138, zI v1, zI 0, zI 0] [] M) else (Rt (some (zI (-104))) M) else none := by
  refine Eq.trans (s_aloadn f_231_15 rfl) ?_
  refine Eq.trans (s_getR f_231_16 g_231_34 (by decide) kn_138 rf_138_14) ?_
  refine Eq.trans (s_iloadn f_231_19 rfl) ?_
  refine Eq.trans (s_bald f_231_20 kn_147 ln_147) (gd_cg fun h1 => ?_)
  refine Eq.trans (s_if (P := (M 147 v1) ≠ 0) 27 f_231_21 (by decide) rfl) (ite_cg (fun h2 => ?_) (fun h2 => ?_))
  · refine Eq.trans (s_iconst f_231_27) ?_
    refine Eq.trans (s_istoren f_231_28 rfl) ?_
    refine Eq.trans (s_iconst f_231_29) ?_
    refine Eq.trans (s_istoren f_231_30 rfl) ?_
    rfl
  · refine Eq.trans (s_bipush f_231_24) ?_
    exact s_iret f_231_26 t_231
theorem q_231_31 {d : Nat} (v1 v2 v3 : Int) (M : ZM) : Q d 231 31 [zR 138, zI v1, zI v2, zI v3] [] M = if 6 ≤ v3 then (Rt (some (zI v2)) M) else (Cb (E d 193 [zR 138, zI (-1), zI v3, zI (-1)] M) (fun v h => zrun (zevl d) 231 44 [zR 138, zI v1, zI v2, zI v3] (v.toList ++ []) h)) := by
  refine Eq.trans (s_iloadn f_231_31 rfl) ?_
  refine Eq.trans (s_bipush f_231_32) ?_
  refine Eq.trans (s_icmp (P := 6 ≤ v3) 69 f_231_34 (by decide) rfl) (ite_cg (fun h1 => ?_) (fun h1 => ?_))
  · refine Eq.trans (s_iloadn f_231_69 rfl) ?_
    exact s_iret f_231_70 t_231
  · refine Eq.trans (s_aloadn f_231_37 rfl) ?_
    refine Eq.trans (s_iconst f_231_38) ?_
    refine Eq.trans (s_iloadn f_231_39 rfl) ?_
    refine Eq.trans (s_iconst f_231_40) ?_
    exact s_call [zR 138, zI (-1), zI v3, zI (-1)] [] f_231_41 rfl c_231_179 rfl rfl (Nat.le_of_ble_eq_true rfl) (by show (zkn SH 138 == zown 193) = true; rw [show zkn SH 138 = 10 from kn_138]; rfl)
theorem q_231_44 {d : Nat} (v1 v2 v3 : Int) (M : ZM) : Q d 231 44 [zR 138, zI v1, zI v2, zI v3] [] M = if 0 ≤ v1 ∧ v1 < 12 then if (M 147 v1) = 0 then (Q d 231 31 [zR 138, zI v1, zI (zor v2 (zshl 1 v3)), zI (zw (v3 + 1))] [] M) else (Q d 231 31 [zR 138, zI v1, zI (zor v2 0), zI (zw (v3 + 1))] [] M) else none := by
  refine Eq.trans (s_iloadn f_231_44 rfl) ?_
  refine Eq.trans (s_aloadn f_231_45 rfl) ?_
  refine Eq.trans (s_getR f_231_46 g_231_34 (by decide) kn_138 rf_138_14) ?_
  refine Eq.trans (s_iloadn f_231_49 rfl) ?_
  refine Eq.trans (s_bald f_231_50 kn_147 ln_147) (gd_cg fun h1 => ?_)
  refine Eq.trans (s_if (P := (M 147 v1) = 0) 58 f_231_51 (by decide) rfl) (ite_cg (fun h2 => ?_) (fun h2 => ?_))
  · refine Eq.trans (s_iconst f_231_58) ?_
    refine Eq.trans (s_iloadn f_231_59 rfl) ?_
    refine Eq.trans (s_ishl f_231_60) ?_
    refine Eq.trans (s_ior f_231_61) ?_
    refine Eq.trans (s_istoren f_231_62 rfl) ?_
    refine Eq.trans (s_iinc f_231_63 rfl rfl) ?_
    refine Eq.trans (s_goto 31 f_231_66 (by decide)) ?_
    rfl
  · refine Eq.trans (s_iconst f_231_54) ?_
    refine Eq.trans (s_goto 61 f_231_55 (by decide)) ?_
    refine Eq.trans (s_ior f_231_61) ?_
    refine Eq.trans (s_istoren f_231_62 rfl) ?_
    refine Eq.trans (s_iinc f_231_63 rfl rfl) ?_
    refine Eq.trans (s_goto 31 f_231_66 (by decide)) ?_
    rfl
theorem en_231 {d : Nat} (v1 : Int) (M : ZM) : E (d + 1) 231 [zR 138, zI v1] M = Q d 231 0 [zR 138, zI v1, zU, zU] [] M := e_in (Nat.le_of_ble_eq_true rfl)
-- DungeonBuilderModel.missing(I)I
theorem q_232_0 {d : Nat} (v1 : Int) (M : ZM) : Q d 232 0 [zR 138, zI v1, zU, zU] [] M = Cb (E d 154 [zR 138, zI v1] M) (fun v h => zrun (zevl d) 232 5 [zR 138, zI v1, zU, zU] (v.toList ++ []) h) := by
  refine Eq.trans (s_aloadn f_232_0 rfl) ?_
  refine Eq.trans (s_iloadn f_232_1 rfl) ?_
  exact s_call [zR 138, zI v1] [] f_232_2 rfl c_232_88 rfl rfl (Nat.le_of_ble_eq_true rfl) (by show (zkn SH 138 == zown 154) = true; rw [show zkn SH 138 = 10 from kn_138]; rfl)
theorem q_232_5 {d : Nat} (v1 s0 : Int) (M : ZM) : Q d 232 5 [zR 138, zI v1, zU, zU] [zI s0] M = if s0 ≠ 0 then (Cb (E d 194 [zR 138] M) (fun v h => zrun (zevl d) 232 15 [zR 138, zI v1, zU, zU] (v.toList ++ []) h)) else (Rt (some (zI (-101))) M) := by
  refine Eq.trans (s_if (P := s0 ≠ 0) 11 f_232_5 (by decide) rfl) (ite_cg (fun h1 => ?_) (fun h1 => ?_))
  · refine Eq.trans (s_aloadn f_232_11 rfl) ?_
    exact s_call [zR 138] [] f_232_12 rfl c_232_240 rfl rfl (Nat.le_of_ble_eq_true rfl) (by show (zkn SH 138 == zown 194) = true; rw [show zkn SH 138 = 10 from kn_138]; rfl)
  · refine Eq.trans (s_bipush f_232_8) ?_
    exact s_iret f_232_10 t_232
theorem q_232_15 {d : Nat} (v1 : Int) (M : ZM) : Q d 232 15 [zR 138, zI v1, zU, zU] [] M = if 0 ≤ v1 ∧ v1 < 12 then if (M 147 v1) = 0 then (Q d 232 31 [zR 138, zI v1, zI 0, zI 0] [] M) else (Rt (some (zI (-104))) M) else none := by
  refine Eq.trans (s_aloadn f_232_15 rfl) ?_
  refine Eq.trans (s_getR f_232_16 g_232_34 (by decide) kn_138 rf_138_14) ?_
  refine Eq.trans (s_iloadn f_232_19 rfl) ?_
  refine Eq.trans (s_bald f_232_20 kn_147 ln_147) (gd_cg fun h1 => ?_)
  refine Eq.trans (s_if (P := (M 147 v1) = 0) 27 f_232_21 (by decide) rfl) (ite_cg (fun h2 => ?_) (fun h2 => ?_))
  · refine Eq.trans (s_iconst f_232_27) ?_
    refine Eq.trans (s_istoren f_232_28 rfl) ?_
    refine Eq.trans (s_iconst f_232_29) ?_
    refine Eq.trans (s_istoren f_232_30 rfl) ?_
    rfl
  · refine Eq.trans (s_bipush f_232_24) ?_
    exact s_iret f_232_26 t_232
theorem q_232_31 {d : Nat} (v1 v2 v3 : Int) (M : ZM) : Q d 232 31 [zR 138, zI v1, zI v2, zI v3] [] M = if 6 ≤ v3 then (Rt (some (zI v2)) M) else (Cb (E d 193 [zR 138, zI (-1), zI (-1), zI v3] M) (fun v h => zrun (zevl d) 232 44 [zR 138, zI v1, zI v2, zI v3] (v.toList ++ []) h)) := by
  refine Eq.trans (s_iloadn f_232_31 rfl) ?_
  refine Eq.trans (s_bipush f_232_32) ?_
  refine Eq.trans (s_icmp (P := 6 ≤ v3) 69 f_232_34 (by decide) rfl) (ite_cg (fun h1 => ?_) (fun h1 => ?_))
  · refine Eq.trans (s_iloadn f_232_69 rfl) ?_
    exact s_iret f_232_70 t_232
  · refine Eq.trans (s_aloadn f_232_37 rfl) ?_
    refine Eq.trans (s_iconst f_232_38) ?_
    refine Eq.trans (s_iconst f_232_39) ?_
    refine Eq.trans (s_iloadn f_232_40 rfl) ?_
    exact s_call [zR 138, zI (-1), zI (-1), zI v3] [] f_232_41 rfl c_232_179 rfl rfl (Nat.le_of_ble_eq_true rfl) (by show (zkn SH 138 == zown 193) = true; rw [show zkn SH 138 = 10 from kn_138]; rfl)
theorem q_232_44 {d : Nat} (v1 v2 v3 : Int) (M : ZM) : Q d 232 44 [zR 138, zI v1, zI v2, zI v3] [] M = if 0 ≤ v1 ∧ v1 < 12 then if (M 147 v1) = 0 then (Q d 232 31 [zR 138, zI v1, zI (zor v2 0), zI (zw (v3 + 1))] [] M) else (Q d 232 31 [zR 138, zI v1, zI (zor v2 (zshl 1 v3)), zI (zw (v3 + 1))] [] M) else none := by
  refine Eq.trans (s_iloadn f_232_44 rfl) ?_
  refine Eq.trans (s_aloadn f_232_45 rfl) ?_
  refine Eq.trans (s_getR f_232_46 g_232_34 (by decide) kn_138 rf_138_14) ?_
  refine Eq.trans (s_iloadn f_232_49 rfl) ?_
  refine Eq.trans (s_bald f_232_50 kn_147 ln_147) (gd_cg fun h1 => ?_)
  refine Eq.trans (s_if (P := (M 147 v1) = 0) 60 f_232_51 (by decide) rfl) (ite_cg (fun h2 => ?_) (fun h2 => ?_))
  · refine Eq.trans (s_iconst f_232_60) ?_
    refine Eq.trans (s_ior f_232_61) ?_
    refine Eq.trans (s_istoren f_232_62 rfl) ?_
    refine Eq.trans (s_iinc f_232_63 rfl rfl) ?_
    refine Eq.trans (s_goto 31 f_232_66 (by decide)) ?_
    rfl
  · refine Eq.trans (s_iconst f_232_54) ?_
    refine Eq.trans (s_iloadn f_232_55 rfl) ?_
    refine Eq.trans (s_ishl f_232_56) ?_
    refine Eq.trans (s_goto 61 f_232_57 (by decide)) ?_
    refine Eq.trans (s_ior f_232_61) ?_
    refine Eq.trans (s_istoren f_232_62 rfl) ?_
    refine Eq.trans (s_iinc f_232_63 rfl rfl) ?_
    refine Eq.trans (s_goto 31 f_232_66 (by decide)) ?_
    rfl
theorem en_232 {d : Nat} (v1 : Int) (M : ZM) : E (d + 1) 232 [zR 138, zI v1] M = Q d 232 0 [zR 138, zI v1, zU, zU] [] M := e_in (Nat.le_of_ble_eq_true rfl)
-- DungeonBuilderModel.keyBit(I)I
theorem q_233_0 {d : Nat} (v1 : Int) (M : ZM) : Q d 233 0 [zR 138, zI v1] [] M = Cb (E d 156 [zR 138, zI v1, zI 4] M) (fun v h => zrun (zevl d) 233 6 [zR 138, zI v1] (v.toList ++ []) h) := by
  refine Eq.trans (s_aloadn f_233_0 rfl) ?_
  refine Eq.trans (s_iloadn f_233_1 rfl) ?_
  refine Eq.trans (s_iconst f_233_2) ?_
  exact s_call [zR 138, zI v1, zI 4] [] f_233_3 rfl c_233_62 rfl rfl (Nat.le_of_ble_eq_true rfl) (by show (zkn SH 138 == zown 156) = true; rw [show zkn SH 138 = 10 from kn_138]; rfl)
theorem q_233_6 {d : Nat} (v1 s0 : Int) (M : ZM) : Q d 233 6 [zR 138, zI v1] [zI s0] M = if s0 < 0 then (Rt (some (zI 0)) M) else (Cb (E d 156 [zR 138, zI v1, zI 4] M) (fun v h => zrun (zevl d) 233 16 [zR 138, zI v1] (v.toList ++ [zI 1]) h)) := by
  refine Eq.trans (s_if (P := s0 < 0) 20 f_233_6 (by decide) rfl) (ite_cg (fun h1 => ?_) (fun h1 => ?_))
  · refine Eq.trans (s_iconst f_233_20) ?_
    exact s_iret f_233_21 t_233
  · refine Eq.trans (s_iconst f_233_9) ?_
    refine Eq.trans (s_aloadn f_233_10 rfl) ?_
    refine Eq.trans (s_iloadn f_233_11 rfl) ?_
    refine Eq.trans (s_iconst f_233_12) ?_
    exact s_call [zR 138, zI v1, zI 4] [zI 1] f_233_13 rfl c_233_62 rfl rfl (Nat.le_of_ble_eq_true rfl) (by show (zkn SH 138 == zown 156) = true; rw [show zkn SH 138 = 10 from kn_138]; rfl)
theorem q_233_16 {d : Nat} (v1 s0 s1 : Int) (M : ZM) : Q d 233 16 [zR 138, zI v1] [zI s1, zI s0] M = Rt (some (zI (zshl s0 s1))) M := by
  refine Eq.trans (s_ishl f_233_16) ?_
  refine Eq.trans (s_goto 21 f_233_17 (by decide)) ?_
  exact s_iret f_233_21 t_233
theorem en_233 {d : Nat} (v1 : Int) (M : ZM) : E (d + 1) 233 [zR 138, zI v1] M = Q d 233 0 [zR 138, zI v1] [] M := e_in (Nat.le_of_ble_eq_true rfl)
-- DungeonBuilderModel.through(II)I
theorem q_234_0 {d : Nat} (v1 v2 : Int) (M : ZM) : Q d 234 0 [zR 138, zI v1, zI v2, zU, zU, zU] [] M = Cb (E d 157 [zR 138, zI v2, zI 0] M) (fun v h => zrun (zevl d) 234 17 [zR 138, zI v1, zI v2, zI ((v1).tmod 64), zI (zw ((v1).tdiv 64)), zU] (v.toList ++ []) h) := by
  refine Eq.trans (s_iloadn f_234_0 rfl) ?_
  refine Eq.trans (s_bipush f_234_1) ?_
  refine Eq.trans (s_irem f_234_3) (Eq.trans (if_pos (by decide)) ?_)
  refine Eq.trans (s_istoren f_234_4 rfl) ?_
  refine Eq.trans (s_iloadn f_234_5 rfl) ?_
  refine Eq.trans (s_bipush f_234_6) ?_
  refine Eq.trans (s_idiv f_234_8) (Eq.trans (if_pos (by decide)) ?_)
  refine Eq.trans (s_istore f_234_9 rfl) ?_
  refine Eq.trans (s_aloadn f_234_11 rfl) ?_
  refine Eq.trans (s_iloadn f_234_12 rfl) ?_
  refine Eq.trans (s_iconst f_234_13) ?_
  exact s_call [zR 138, zI v2, zI 0] [] f_234_14 rfl c_234_85 rfl rfl (Nat.le_of_ble_eq_true rfl) (by show (zkn SH 138 == zown 157) = true; rw [show zkn SH 138 = 10 from kn_138]; rfl)
theorem q_234_17 {d : Nat} (v1 v2 v3 v4 s0 : Int) (M : ZM) : Q d 234 17 [zR 138, zI v1, zI v2, zI v3, zI v4, zU] [zI s0] M = if s0 = v4 then (Cb (E d 157 [zR 138, zI v2, zI 2] M) (fun v h => zrun (zevl d) 234 39 [zR 138, zI v1, zI v2, zI v3, zI v4, zU] (v.toList ++ []) h)) else (Cb (E d 157 [zR 138, zI v2, zI 1] M) (fun v h => zrun (zevl d) 234 28 [zR 138, zI v1, zI v2, zI v3, zI v4, zU] (v.toList ++ []) h)) := by
  refine Eq.trans (s_iload f_234_17 rfl) ?_
  refine Eq.trans (s_icmp (P := s0 = v4) 33 f_234_19 (by decide) rfl) (ite_cg (fun h1 => ?_) (fun h1 => ?_))
  · refine Eq.trans (s_aloadn f_234_33 rfl) ?_
    refine Eq.trans (s_iloadn f_234_34 rfl) ?_
    refine Eq.trans (s_iconst f_234_35) ?_
    exact s_call [zR 138, zI v2, zI 2] [] f_234_36 rfl c_234_85 rfl rfl (Nat.le_of_ble_eq_true rfl) (by show (zkn SH 138 == zown 157) = true; rw [show zkn SH 138 = 10 from kn_138]; rfl)
  · refine Eq.trans (s_aloadn f_234_22 rfl) ?_
    refine Eq.trans (s_iloadn f_234_23 rfl) ?_
    refine Eq.trans (s_iconst f_234_24) ?_
    exact s_call [zR 138, zI v2, zI 1] [] f_234_25 rfl c_234_85 rfl rfl (Nat.le_of_ble_eq_true rfl) (by show (zkn SH 138 == zown 157) = true; rw [show zkn SH 138 = 10 from kn_138]; rfl)
theorem q_234_28 {d : Nat} (v1 v2 v3 v4 s0 : Int) (M : ZM) : Q d 234 28 [zR 138, zI v1, zI v2, zI v3, zI v4, zU] [zI s0] M = if s0 ≠ v4 then (Rt (some (zI (-1))) M) else (Cb (E d 157 [zR 138, zI v2, zI 2] M) (fun v h => zrun (zevl d) 234 39 [zR 138, zI v1, zI v2, zI v3, zI v4, zU] (v.toList ++ []) h)) := by
  refine Eq.trans (s_iload f_234_28 rfl) ?_
  refine Eq.trans (s_icmp (P := s0 ≠ v4) 55 f_234_30 (by decide) rfl) (ite_cg (fun h1 => ?_) (fun h1 => ?_))
  · refine Eq.trans (s_iconst f_234_55) ?_
    exact s_iret f_234_56 t_234
  · refine Eq.trans (s_aloadn f_234_33 rfl) ?_
    refine Eq.trans (s_iloadn f_234_34 rfl) ?_
    refine Eq.trans (s_iconst f_234_35) ?_
    exact s_call [zR 138, zI v2, zI 2] [] f_234_36 rfl c_234_85 rfl rfl (Nat.le_of_ble_eq_true rfl) (by show (zkn SH 138 == zown 157) = true; rw [show zkn SH 138 = 10 from kn_138]; rfl)
theorem q_234_39 {d : Nat} (v1 v2 v3 v4 s0 : Int) (M : ZM) : Q d 234 39 [zR 138, zI v1, zI v2, zI v3, zI v4, zU] [zI s0] M = if s0 < 0 then (Cb (E d 157 [zR 138, zI v2, zI 0] M) (fun v h => zrun (zevl d) 234 63 [zR 138, zI v1, zI v2, zI v3, zI v4, zU] (v.toList ++ []) h)) else (Cb (E d 157 [zR 138, zI v2, zI 2] M) (fun v h => zrun (zevl d) 234 49 [zR 138, zI v1, zI v2, zI v3, zI v4, zU] (v.toList ++ [zI v3]) h)) := by
  refine Eq.trans (s_if (P := s0 < 0) 57 f_234_39 (by decide) rfl) (ite_cg (fun h1 => ?_) (fun h1 => ?_))
  · refine Eq.trans (s_aloadn f_234_57 rfl) ?_
    refine Eq.trans (s_iloadn f_234_58 rfl) ?_
    refine Eq.trans (s_iconst f_234_59) ?_
    exact s_call [zR 138, zI v2, zI 0] [] f_234_60 rfl c_234_85 rfl rfl (Nat.le_of_ble_eq_true rfl) (by show (zkn SH 138 == zown 157) = true; rw [show zkn SH 138 = 10 from kn_138]; rfl)
  · refine Eq.trans (s_iloadn f_234_42 rfl) ?_
    refine Eq.trans (s_aloadn f_234_43 rfl) ?_
    refine Eq.trans (s_iloadn f_234_44 rfl) ?_
    refine Eq.trans (s_iconst f_234_45) ?_
    exact s_call [zR 138, zI v2, zI 2] [zI v3] f_234_46 rfl c_234_85 rfl rfl (Nat.le_of_ble_eq_true rfl) (by show (zkn SH 138 == zown 157) = true; rw [show zkn SH 138 = 10 from kn_138]; rfl)
theorem q_234_49 {d : Nat} (v1 v2 v3 v4 s0 s1 : Int) (M : ZM) : Q d 234 49 [zR 138, zI v1, zI v2, zI v3, zI v4, zU] [zI s1, zI s0] M = if (zand (zshr s0 s1) 1) ≠ 0 then (Cb (E d 157 [zR 138, zI v2, zI 0] M) (fun v h => zrun (zevl d) 234 63 [zR 138, zI v1, zI v2, zI v3, zI v4, zU] (v.toList ++ []) h)) else (Rt (some (zI (-1))) M) := by
  refine Eq.trans (s_ishr f_234_49) ?_
  refine Eq.trans (s_iconst f_234_50) ?_
  refine Eq.trans (s_iand f_234_51) ?_
  refine Eq.trans (s_if (P := (zand (zshr s0 s1) 1) ≠ 0) 57 f_234_52 (by decide) rfl) (ite_cg (fun h1 => ?_) (fun h1 => ?_))
  · refine Eq.trans (s_aloadn f_234_57 rfl) ?_
    refine Eq.trans (s_iloadn f_234_58 rfl) ?_
    refine Eq.trans (s_iconst f_234_59) ?_
    exact s_call [zR 138, zI v2, zI 0] [] f_234_60 rfl c_234_85 rfl rfl (Nat.le_of_ble_eq_true rfl) (by show (zkn SH 138 == zown 157) = true; rw [show zkn SH 138 = 10 from kn_138]; rfl)
  · refine Eq.trans (s_iconst f_234_55) ?_
    exact s_iret f_234_56 t_234
theorem q_234_63 {d : Nat} (v1 v2 v3 v4 s0 : Int) (M : ZM) : Q d 234 63 [zR 138, zI v1, zI v2, zI v3, zI v4, zU] [zI s0] M = if s0 ≠ v4 then (Cb (E d 157 [zR 138, zI v2, zI 0] M) (fun v h => zrun (zevl d) 234 83 [zR 138, zI v1, zI v2, zI v3, zI v4, zU] (v.toList ++ []) h)) else (Cb (E d 157 [zR 138, zI v2, zI 1] M) (fun v h => zrun (zevl d) 234 74 [zR 138, zI v1, zI v2, zI v3, zI v4, zU] (v.toList ++ []) h)) := by
  refine Eq.trans (s_iload f_234_63 rfl) ?_
  refine Eq.trans (s_icmp (P := s0 ≠ v4) 77 f_234_65 (by decide) rfl) (ite_cg (fun h1 => ?_) (fun h1 => ?_))
  · refine Eq.trans (s_aloadn f_234_77 rfl) ?_
    refine Eq.trans (s_iloadn f_234_78 rfl) ?_
    refine Eq.trans (s_iconst f_234_79) ?_
    exact s_call [zR 138, zI v2, zI 0] [] f_234_80 rfl c_234_85 rfl rfl (Nat.le_of_ble_eq_true rfl) (by show (zkn SH 138 == zown 157) = true; rw [show zkn SH 138 = 10 from kn_138]; rfl)
  · refine Eq.trans (s_aloadn f_234_68 rfl) ?_
    refine Eq.trans (s_iloadn f_234_69 rfl) ?_
    refine Eq.trans (s_iconst f_234_70) ?_
    exact s_call [zR 138, zI v2, zI 1] [] f_234_71 rfl c_234_85 rfl rfl (Nat.le_of_ble_eq_true rfl) (by show (zkn SH 138 == zown 157) = true; rw [show zkn SH 138 = 10 from kn_138]; rfl)
theorem q_234_74 {d : Nat} (v1 v2 v3 v4 s0 : Int) (M : ZM) : Q d 234 74 [zR 138, zI v1, zI v2, zI v3, zI v4, zU] [zI s0] M = Q d 234 83 [zR 138, zI v1, zI v2, zI v3, zI v4, zU] [zI s0] M := by
  refine Eq.trans (s_goto 83 f_234_74 (by decide)) ?_
  rfl
theorem q_234_83 {d : Nat} (v1 v2 v3 v4 s0 : Int) (M : ZM) : Q d 234 83 [zR 138, zI v1, zI v2, zI v3, zI v4, zU] [zI s0] M = Cb (E d 233 [zR 138, zI s0] M) (fun v h => zrun (zevl d) 234 97 [zR 138, zI v1, zI v2, zI v3, zI v4, zI s0] (v.toList ++ [zI v3, zI (zw (64 * s0))]) h) := by
  refine Eq.trans (s_istore f_234_83 rfl) ?_
  refine Eq.trans (s_bipush f_234_85) ?_
  refine Eq.trans (s_iload f_234_87 rfl) ?_
  refine Eq.trans (s_imul f_234_89) ?_
  refine Eq.trans (s_iloadn f_234_90 rfl) ?_
  refine Eq.trans (s_aloadn f_234_91 rfl) ?_
  refine Eq.trans (s_iload f_234_92 rfl) ?_
  exact s_call [zR 138, zI s0] [zI v3, zI (zw (64 * s0))] f_234_94 rfl c_234_243 rfl rfl (Nat.le_of_ble_eq_true rfl) (by show (zkn SH 138 == zown 233) = true; rw [show zkn SH 138 = 10 from kn_138]; rfl)
theorem q_234_97 {d : Nat} (v1 v2 v3 v4 v5 s0 s1 s2 : Int) (M : ZM) : Q d 234 97 [zR 138, zI v1, zI v2, zI v3, zI v4, zI v5] [zI s2, zI s1, zI s0] M = Rt (some (zI (zw (s0 + (zor s1 s2))))) M := by
  refine Eq.trans (s_ior f_234_97) ?_
  refine Eq.trans (s_iadd f_234_98) ?_
  exact s_iret f_234_99 t_234
theorem en_234 {d : Nat} (v1 v2 : Int) (M : ZM) : E (d + 1) 234 [zR 138, zI v1, zI v2] M = Q d 234 0 [zR 138, zI v1, zI v2, zU, zU, zU] [] M := e_in (Nat.le_of_ble_eq_true rfl)
-- DungeonBuilderModel.after(II)I
theorem q_235_0 {d : Nat} (v1 v2 : Int) (M : ZM) : Q d 235 0 [zR 138, zI v1, zI v2, zU] [] M = Cb (E d 167 [zR 138, zI (zw ((v1).tdiv 64)), zI v2] M) (fun v h => zrun (zevl d) 235 9 [zR 138, zI v1, zI v2, zU] (v.toList ++ []) h) := by
  refine Eq.trans (s_aloadn f_235_0 rfl) ?_
  refine Eq.trans (s_iloadn f_235_1 rfl) ?_
  refine Eq.trans (s_bipush f_235_2) ?_
  refine Eq.trans (s_idiv f_235_4) (Eq.trans (if_pos (by decide)) ?_)
  refine Eq.trans (s_iloadn f_235_5 rfl) ?_
  exact s_call [zR 138, zI (zw ((v1).tdiv 64)), zI v2] [] f_235_6 rfl c_235_92 rfl rfl (Nat.le_of_ble_eq_true rfl) (by show (zkn SH 138 == zown 167) = true; rw [show zkn SH 138 = 10 from kn_138]; rfl)
theorem q_235_9 {d : Nat} (v1 v2 s0 : Int) (M : ZM) : Q d 235 9 [zR 138, zI v1, zI v2, zU] [zI s0] M = if s0 ≠ (-1) then (Cb (E d 234 [zR 138, zI v1, zI s0] M) (fun v h => zrun (zevl d) 235 25 [zR 138, zI v1, zI v2, zI s0] (v.toList ++ []) h)) else (Q d 235 25 [zR 138, zI v1, zI v2, zI s0] [zI (-1)] M) := by
  refine Eq.trans (s_istoren f_235_9 rfl) ?_
  refine Eq.trans (s_iloadn f_235_10 rfl) ?_
  refine Eq.trans (s_iconst f_235_11) ?_
  refine Eq.trans (s_icmp (P := s0 ≠ (-1)) 19 f_235_12 (by decide) rfl) (ite_cg (fun h1 => ?_) (fun h1 => ?_))
  · refine Eq.trans (s_aloadn f_235_19 rfl) ?_
    refine Eq.trans (s_iloadn f_235_20 rfl) ?_
    refine Eq.trans (s_iloadn f_235_21 rfl) ?_
    exact s_call [zR 138, zI v1, zI s0] [] f_235_22 rfl c_235_246 rfl rfl (Nat.le_of_ble_eq_true rfl) (by show (zkn SH 138 == zown 234) = true; rw [show zkn SH 138 = 10 from kn_138]; rfl)
  · refine Eq.trans (s_iconst f_235_15) ?_
    refine Eq.trans (s_goto 25 f_235_16 (by decide)) ?_
    rfl
theorem q_235_25 {d : Nat} (v1 v2 v3 s0 : Int) (M : ZM) : Q d 235 25 [zR 138, zI v1, zI v2, zI v3] [zI s0] M = Rt (some (zI s0)) M := by
  exact s_iret f_235_25 t_235
theorem en_235 {d : Nat} (v1 v2 : Int) (M : ZM) : E (d + 1) 235 [zR 138, zI v1, zI v2] M = Q d 235 0 [zR 138, zI v1, zI v2, zU] [] M := e_in (Nat.le_of_ble_eq_true rfl)
-- DungeonBuilderModel.begin()I
theorem q_236_0 {d : Nat} (M : ZM) : Q d 236 0 [zR 138] [] M = Cb (E d 233 [zR 138, zI (M 139 122)] M) (fun v h => zrun (zevl d) 236 21 [zR 138] (v.toList ++ [zI (zw (64 * (M 139 122)))]) h) := by
  refine Eq.trans (s_bipush f_236_0) ?_
  refine Eq.trans (s_aloadn f_236_2 rfl) ?_
  refine Eq.trans (s_getR f_236_3 g_236_7 (by decide) kn_138 rf_138_0) ?_
  refine Eq.trans (s_bipush f_236_6) ?_
  refine Eq.trans (s_iald f_236_8 kn_139 ln_139) (Eq.trans (if_pos (by decide)) ?_)
  refine Eq.trans (s_imul f_236_9) ?_
  refine Eq.trans (s_aloadn f_236_10 rfl) ?_
  refine Eq.trans (s_aloadn f_236_11 rfl) ?_
  refine Eq.trans (s_getR f_236_12 g_236_7 (by decide) kn_138 rf_138_0) ?_
  refine Eq.trans (s_bipush f_236_15) ?_
  refine Eq.trans (s_iald f_236_17 kn_139 ln_139) (Eq.trans (if_pos (by decide)) ?_)
  exact s_call [zR 138, zI (M 139 122)] [zI (zw (64 * (M 139 122)))] f_236_18 rfl c_236_243 rfl rfl (Nat.le_of_ble_eq_true rfl) (by show (zkn SH 138 == zown 233) = true; rw [show zkn SH 138 = 10 from kn_138]; rfl)
theorem q_236_21 {d : Nat} (s0 s1 : Int) (M : ZM) : Q d 236 21 [zR 138] [zI s1, zI s0] M = Rt (some (zI (zw (s0 + s1)))) M := by
  refine Eq.trans (s_iadd f_236_21) ?_
  exact s_iret f_236_22 t_236
theorem en_236 {d : Nat} (M : ZM) : E (d + 1) 236 [zR 138] M = Q d 236 0 [zR 138] [] M := e_in (Nat.le_of_ble_eq_true rfl)
-- DungeonBuilderModel.tellLeft(I)V
theorem q_237_0 {d : Nat} (v1 : Int) (M : ZM) : Q d 237 0 [zR 138, zI v1, zU, zU, zU, zU, zU] [] M = Q d 237 2 [zR 138, zI v1, zI 0, zU, zU, zU, zU] [] M := by
  refine Eq.trans (s_iconst f_237_0) ?_
  refine Eq.trans (s_istoren f_237_1 rfl) ?_
  rfl
theorem q_237_2 {d : Nat} (v1 v2 : Int) (M : ZM) : Q d 237 2 [zR 138, zI v1, zI v2, zU, zU, zU, zU] [] M = if 768 ≤ v2 then (Q d 237 38 [zR 138, zI v1, zI 1, zI 1, zU, zU, zU] [] M) else (if (zw ((v2).tdiv 64)) ≠ v1 then (if 0 ≤ v2 ∧ v2 < 768 then Q d 237 2 [zR 138, zI v1, zI (zw (v2 + 1)), zU, zU, zU, zU] [] (zwr M 152 v2 (-1)) else none) else (if 0 ≤ v2 ∧ v2 < 768 then Q d 237 2 [zR 138, zI v1, zI (zw (v2 + 1)), zU, zU, zU, zU] [] (zwr M 152 v2 0) else none)) := by
  refine Eq.trans (s_iloadn f_237_2 rfl) ?_
  refine Eq.trans (s_sipush f_237_3) ?_
  refine Eq.trans (s_icmp (P := 768 ≤ v2) 34 f_237_6 (by decide) rfl) (ite_cg (fun h1 => ?_) (fun h1 => ?_))
  · refine Eq.trans (s_iconst f_237_34) ?_
    refine Eq.trans (s_istoren f_237_35 rfl) ?_
    refine Eq.trans (s_iconst f_237_36) ?_
    refine Eq.trans (s_istoren f_237_37 rfl) ?_
    rfl
  · refine Eq.trans (s_aloadn f_237_9 rfl) ?_
    refine Eq.trans (s_getR f_237_10 g_237_55 (by decide) kn_138 rf_138_24) ?_
    refine Eq.trans (s_iloadn f_237_13 rfl) ?_
    refine Eq.trans (s_iloadn f_237_14 rfl) ?_
    refine Eq.trans (s_bipush f_237_15) ?_
    refine Eq.trans (s_idiv f_237_17) (Eq.trans (if_pos (by decide)) ?_)
    refine Eq.trans (s_iloadn f_237_18 rfl) ?_
    refine Eq.trans (s_icmp (P := (zw ((v2).tdiv 64)) ≠ v1) 26 f_237_19 (by decide) rfl) (ite_cg (fun h2 => ?_) (fun h2 => ?_))
    · refine Eq.trans (s_iconst f_237_26) ?_
      refine Eq.trans (s_iast f_237_27 kn_152 ln_152) (gd_cg fun h3 => ?_)
      refine Eq.trans (s_iinc f_237_28 rfl rfl) ?_
      refine Eq.trans (s_goto 2 f_237_31 (by decide)) ?_
      rfl
    · refine Eq.trans (s_iconst f_237_22) ?_
      refine Eq.trans (s_goto 27 f_237_23 (by decide)) ?_
      refine Eq.trans (s_iast f_237_27 kn_152 ln_152) (gd_cg fun h4 => ?_)
      refine Eq.trans (s_iinc f_237_28 rfl rfl) ?_
      refine Eq.trans (s_goto 2 f_237_31 (by decide)) ?_
      rfl
theorem q_237_38 {d : Nat} (v1 v2 v3 : Int) (z4 z5 z6 : ZV) (M : ZM) : Q d 237 38 [zR 138, zI v1, zI v2, zI v3, z4, z5, z6] [] M = if v2 = 0 then (Rt none M) else (Q d 237 47 [zR 138, zI v1, zI 0, zI v3, zI 0, z5, z6] [] M) := by
  refine Eq.trans (s_iloadn f_237_38 rfl) ?_
  refine Eq.trans (s_if (P := v2 = 0) 144 f_237_39 (by decide) rfl) (ite_cg (fun h1 => ?_) (fun h1 => ?_))
  · exact s_vret f_237_144 t_237
  · refine Eq.trans (s_iconst f_237_42) ?_
    refine Eq.trans (s_istoren f_237_43 rfl) ?_
    refine Eq.trans (s_iconst f_237_44) ?_
    refine Eq.trans (s_istore f_237_45 rfl) ?_
    rfl
theorem q_237_47 {d : Nat} (v1 v2 v3 v4 : Int) (z5 z6 : ZV) (M : ZM) : Q d 237 47 [zR 138, zI v1, zI v2, zI v3, zI v4, z5, z6] [] M = if (zw (64 * (M 139 120))) ≤ v4 then (Q d 237 38 [zR 138, zI v1, zI v2, zI (zw (v3 + 1)), zI v4, z5, z6] [] M) else (Q d 237 65 [zR 138, zI v1, zI v2, zI v3, zI v4, zI 0, z6] [] M) := by
  refine Eq.trans (s_iload f_237_47 rfl) ?_
  refine Eq.trans (s_bipush f_237_49) ?_
  refine Eq.trans (s_aloadn f_237_51 rfl) ?_
  refine Eq.trans (s_getR f_237_52 g_237_7 (by decide) kn_138 rf_138_0) ?_
  refine Eq.trans (s_bipush f_237_55) ?_
  refine Eq.trans (s_iald f_237_57 kn_139 ln_139) (Eq.trans (if_pos (by decide)) ?_)
  refine Eq.trans (s_imul f_237_58) ?_
  refine Eq.trans (s_icmp (P := (zw (64 * (M 139 120))) ≤ v4) 138 f_237_59 (by decide) rfl) (ite_cg (fun h1 => ?_) (fun h1 => ?_))
  · refine Eq.trans (s_iinc f_237_138 rfl rfl) ?_
    refine Eq.trans (s_goto 38 f_237_141 (by decide)) ?_
    rfl
  · refine Eq.trans (s_iconst f_237_62) ?_
    refine Eq.trans (s_istore f_237_63 rfl) ?_
    rfl
theorem q_237_65 {d : Nat} (v1 v2 v3 v4 v5 : Int) (z6 : ZV) (M : ZM) : Q d 237 65 [zR 138, zI v1, zI v2, zI v3, zI v4, zI v5, z6] [] M = if (M 139 121) ≤ v5 then (Q d 237 47 [zR 138, zI v1, zI v2, zI v3, zI (zw (v4 + 1)), zI v5, z6] [] M) else (if 0 ≤ v4 ∧ v4 < 768 then if (M 152 v4) ≠ (-1) then (Q d 237 47 [zR 138, zI v1, zI v2, zI v3, zI (zw (v4 + 1)), zI v5, z6] [] M) else (Cb (E d 234 [zR 138, zI v4, zI v5] M) (fun v h => zrun (zevl d) 237 96 [zR 138, zI v1, zI v2, zI v3, zI v4, zI v5, z6] (v.toList ++ []) h)) else none) := by
  refine Eq.trans (s_iload f_237_65 rfl) ?_
  refine Eq.trans (s_aloadn f_237_67 rfl) ?_
  refine Eq.trans (s_getR f_237_68 g_237_7 (by decide) kn_138 rf_138_0) ?_
  refine Eq.trans (s_bipush f_237_71) ?_
  refine Eq.trans (s_iald f_237_73 kn_139 ln_139) (Eq.trans (if_pos (by decide)) ?_)
  refine Eq.trans (s_icmp (P := (M 139 121) ≤ v5) 132 f_237_74 (by decide) rfl) (ite_cg (fun h1 => ?_) (fun h1 => ?_))
  · refine Eq.trans (s_iinc f_237_132 rfl rfl) ?_
    refine Eq.trans (s_goto 47 f_237_135 (by decide)) ?_
    rfl
  · refine Eq.trans (s_aloadn f_237_77 rfl) ?_
    refine Eq.trans (s_getR f_237_78 g_237_55 (by decide) kn_138 rf_138_24) ?_
    refine Eq.trans (s_iload f_237_81 rfl) ?_
    refine Eq.trans (s_iald f_237_83 kn_152 ln_152) (gd_cg fun h2 => ?_)
    refine Eq.trans (s_iconst f_237_84) ?_
    refine Eq.trans (s_icmp (P := (M 152 v4) ≠ (-1)) 132 f_237_85 (by decide) rfl) (ite_cg (fun h3 => ?_) (fun h3 => ?_))
    · refine Eq.trans (s_iinc f_237_132 rfl rfl) ?_
      refine Eq.trans (s_goto 47 f_237_135 (by decide)) ?_
      rfl
    · refine Eq.trans (s_aloadn f_237_88 rfl) ?_
      refine Eq.trans (s_iload f_237_89 rfl) ?_
      refine Eq.trans (s_iload f_237_91 rfl) ?_
      exact s_call [zR 138, zI v4, zI v5] [] f_237_93 rfl c_237_246 rfl rfl (Nat.le_of_ble_eq_true rfl) (by show (zkn SH 138 == zown 234) = true; rw [show zkn SH 138 = 10 from kn_138]; rfl)
theorem q_237_96 {d : Nat} (v1 v2 v3 v4 v5 s0 : Int) (z6 : ZV) (M : ZM) : Q d 237 96 [zR 138, zI v1, zI v2, zI v3, zI v4, zI v5, z6] [zI s0] M = if s0 < 0 then (Q d 237 65 [zR 138, zI v1, zI v2, zI v3, zI v4, zI (zw (v5 + 1)), zI s0] [] M) else (if 0 ≤ s0 ∧ s0 < 768 then if (M 152 s0) ≠ (zw (v3 - 1)) then (Q d 237 65 [zR 138, zI v1, zI v2, zI v3, zI v4, zI (zw (v5 + 1)), zI s0] [] M) else (if 0 ≤ v4 ∧ v4 < 768 then Q d 237 65 [zR 138, zI v1, zI 1, zI v3, zI v4, zI (zw (v5 + 1)), zI s0] [] (zwr M 152 v4 v3) else none) else none) := by
  refine Eq.trans (s_istore f_237_96 rfl) ?_
  refine Eq.trans (s_iload f_237_98 rfl) ?_
  refine Eq.trans (s_if (P := s0 < 0) 126 f_237_100 (by decide) rfl) (ite_cg (fun h1 => ?_) (fun h1 => ?_))
  · refine Eq.trans (s_iinc f_237_126 rfl rfl) ?_
    refine Eq.trans (s_goto 65 f_237_129 (by decide)) ?_
    rfl
  · refine Eq.trans (s_aloadn f_237_103 rfl) ?_
    refine Eq.trans (s_getR f_237_104 g_237_55 (by decide) kn_138 rf_138_24) ?_
    refine Eq.trans (s_iload f_237_107 rfl) ?_
    refine Eq.trans (s_iald f_237_109 kn_152 ln_152) (gd_cg fun h2 => ?_)
    refine Eq.trans (s_iloadn f_237_110 rfl) ?_
    refine Eq.trans (s_iconst f_237_111) ?_
    refine Eq.trans (s_isub f_237_112) ?_
    refine Eq.trans (s_icmp (P := (M 152 s0) ≠ (zw (v3 - 1))) 126 f_237_113 (by decide) rfl) (ite_cg (fun h3 => ?_) (fun h3 => ?_))
    · refine Eq.trans (s_iinc f_237_126 rfl rfl) ?_
      refine Eq.trans (s_goto 65 f_237_129 (by decide)) ?_
      rfl
    · refine Eq.trans (s_aloadn f_237_116 rfl) ?_
      refine Eq.trans (s_getR f_237_117 g_237_55 (by decide) kn_138 rf_138_24) ?_
      refine Eq.trans (s_iload f_237_120 rfl) ?_
      refine Eq.trans (s_iloadn f_237_122 rfl) ?_
      refine Eq.trans (s_iast f_237_123 kn_152 ln_152) (gd_cg fun h4 => ?_)
      refine Eq.trans (s_iconst f_237_124) ?_
      refine Eq.trans (s_istoren f_237_125 rfl) ?_
      refine Eq.trans (s_iinc f_237_126 rfl rfl) ?_
      refine Eq.trans (s_goto 65 f_237_129 (by decide)) ?_
      rfl
theorem en_237 {d : Nat} (v1 : Int) (M : ZM) : E (d + 1) 237 [zR 138, zI v1] M = Q d 237 0 [zR 138, zI v1, zU, zU, zU, zU, zU] [] M := e_in (Nat.le_of_ble_eq_true rfl)
-- DungeonBuilderModel.walkLength(I)I
theorem q_238_0 {d : Nat} (v1 : Int) (M : ZM) : Q d 238 0 [zR 138, zI v1] [] M = Cb (E d 154 [zR 138, zI v1] M) (fun v h => zrun (zevl d) 238 5 [zR 138, zI v1] (v.toList ++ []) h) := by
  refine Eq.trans (s_aloadn f_238_0 rfl) ?_
  refine Eq.trans (s_iloadn f_238_1 rfl) ?_
  exact s_call [zR 138, zI v1] [] f_238_2 rfl c_238_88 rfl rfl (Nat.le_of_ble_eq_true rfl) (by show (zkn SH 138 == zown 154) = true; rw [show zkn SH 138 = 10 from kn_138]; rfl)
theorem q_238_5 {d : Nat} (v1 s0 : Int) (M : ZM) : Q d 238 5 [zR 138, zI v1] [zI s0] M = if s0 ≠ 0 then (Cb (E d 237 [zR 138, zI v1] M) (fun v h => zrun (zevl d) 238 16 [zR 138, zI v1] (v.toList ++ []) h)) else (Rt (some (zI (-101))) M) := by
  refine Eq.trans (s_if (P := s0 ≠ 0) 11 f_238_5 (by decide) rfl) (ite_cg (fun h1 => ?_) (fun h1 => ?_))
  · refine Eq.trans (s_aloadn f_238_11 rfl) ?_
    refine Eq.trans (s_iloadn f_238_12 rfl) ?_
    exact s_call [zR 138, zI v1] [] f_238_13 rfl c_238_249 rfl rfl (Nat.le_of_ble_eq_true rfl) (by show (zkn SH 138 == zown 237) = true; rw [show zkn SH 138 = 10 from kn_138]; rfl)
  · refine Eq.trans (s_bipush f_238_8) ?_
    exact s_iret f_238_10 t_238
theorem q_238_16 {d : Nat} (v1 : Int) (M : ZM) : Q d 238 16 [zR 138, zI v1] [] M = Cb (E d 236 [zR 138] M) (fun v h => zrun (zevl d) 238 24 [zR 138, zI v1] (v.toList ++ [zR 152]) h) := by
  refine Eq.trans (s_aloadn f_238_16 rfl) ?_
  refine Eq.trans (s_getR f_238_17 g_238_55 (by decide) kn_138 rf_138_24) ?_
  refine Eq.trans (s_aloadn f_238_20 rfl) ?_
  exact s_call [zR 138] [zR 152] f_238_21 rfl c_238_252 rfl rfl (Nat.le_of_ble_eq_true rfl) (by show (zkn SH 138 == zown 236) = true; rw [show zkn SH 138 = 10 from kn_138]; rfl)
theorem q_238_24 {d : Nat} (v1 s1 : Int) (M : ZM) : Q d 238 24 [zR 138, zI v1] [zI s1, zR 152] M = if 0 ≤ s1 ∧ s1 < 768 then Cb (E d 169 [zI (M 152 s1)] M) (fun v h => zrun (zevl d) 238 28 [zR 138, zI v1] (v.toList ++ []) h) else none := by
  refine Eq.trans (s_iald f_238_24 kn_152 ln_152) (gd_cg fun h1 => ?_)
  exact s_call [zI (M 152 s1)] [] f_238_25 rfl c_238_98 rfl rfl (Nat.le_of_ble_eq_true rfl) rfl
theorem q_238_28 {d : Nat} (v1 s0 : Int) (M : ZM) : Q d 238 28 [zR 138, zI v1] [zI s0] M = Rt (some (zI s0)) M := by
  exact s_iret f_238_28 t_238
theorem en_238 {d : Nat} (v1 : Int) (M : ZM) : E (d + 1) 238 [zR 138, zI v1] M = Q d 238 0 [zR 138, zI v1] [] M := e_in (Nat.le_of_ble_eq_true rfl)
-- DungeonBuilderModel.walkRoom(II)I
theorem q_239_0 {d : Nat} (v1 v2 : Int) (M : ZM) : Q d 239 0 [zR 138, zI v1, zI v2, zU, zU, zU, zU] [] M = Cb (E d 154 [zR 138, zI v1] M) (fun v h => zrun (zevl d) 239 5 [zR 138, zI v1, zI v2, zU, zU, zU, zU] (v.toList ++ []) h) := by
  refine Eq.trans (s_aloadn f_239_0 rfl) ?_
  refine Eq.trans (s_iloadn f_239_1 rfl) ?_
  exact s_call [zR 138, zI v1] [] f_239_2 rfl c_239_88 rfl rfl (Nat.le_of_ble_eq_true rfl) (by show (zkn SH 138 == zown 154) = true; rw [show zkn SH 138 = 10 from kn_138]; rfl)
theorem q_239_5 {d : Nat} (v1 v2 s0 : Int) (M : ZM) : Q d 239 5 [zR 138, zI v1, zI v2, zU, zU, zU, zU] [zI s0] M = if s0 ≠ 0 then (Cb (E d 237 [zR 138, zI v1] M) (fun v h => zrun (zevl d) 239 16 [zR 138, zI v1, zI v2, zU, zU, zU, zU] (v.toList ++ []) h)) else (Rt (some (zI (-101))) M) := by
  refine Eq.trans (s_if (P := s0 ≠ 0) 11 f_239_5 (by decide) rfl) (ite_cg (fun h1 => ?_) (fun h1 => ?_))
  · refine Eq.trans (s_aloadn f_239_11 rfl) ?_
    refine Eq.trans (s_iloadn f_239_12 rfl) ?_
    exact s_call [zR 138, zI v1] [] f_239_13 rfl c_239_249 rfl rfl (Nat.le_of_ble_eq_true rfl) (by show (zkn SH 138 == zown 237) = true; rw [show zkn SH 138 = 10 from kn_138]; rfl)
  · refine Eq.trans (s_bipush f_239_8) ?_
    exact s_iret f_239_10 t_239
theorem q_239_16 {d : Nat} (v1 v2 : Int) (M : ZM) : Q d 239 16 [zR 138, zI v1, zI v2, zU, zU, zU, zU] [] M = Cb (E d 236 [zR 138] M) (fun v h => zrun (zevl d) 239 24 [zR 138, zI v1, zI v2, zU, zU, zU, zU] (v.toList ++ [zR 152]) h) := by
  refine Eq.trans (s_aloadn f_239_16 rfl) ?_
  refine Eq.trans (s_getR f_239_17 g_239_55 (by decide) kn_138 rf_138_24) ?_
  refine Eq.trans (s_aloadn f_239_20 rfl) ?_
  exact s_call [zR 138] [zR 152] f_239_21 rfl c_239_252 rfl rfl (Nat.le_of_ble_eq_true rfl) (by show (zkn SH 138 == zown 236) = true; rw [show zkn SH 138 = 10 from kn_138]; rfl)
theorem q_239_24 {d : Nat} (v1 v2 s1 : Int) (M : ZM) : Q d 239 24 [zR 138, zI v1, zI v2, zU, zU, zU, zU] [zI s1, zR 152] M = if 0 ≤ s1 ∧ s1 < 768 then if (M 152 s1) ≠ (-1) then (Cb (E d 153 [zI v2, zI 0, zI (M 152 s1)] M) (fun v h => zrun (zevl d) 239 40 [zR 138, zI v1, zI v2, zI (M 152 s1), zU, zU, zU] (v.toList ++ []) h)) else (Rt (some (zI (-104))) M) else none := by
  refine Eq.trans (s_iald f_239_24 kn_152 ln_152) (gd_cg fun h1 => ?_)
  refine Eq.trans (s_istoren f_239_25 rfl) ?_
  refine Eq.trans (s_iloadn f_239_26 rfl) ?_
  refine Eq.trans (s_iconst f_239_27) ?_
  refine Eq.trans (s_icmp (P := (M 152 s1) ≠ (-1)) 34 f_239_28 (by decide) rfl) (ite_cg (fun h2 => ?_) (fun h2 => ?_))
  · refine Eq.trans (s_iloadn f_239_34 rfl) ?_
    refine Eq.trans (s_iconst f_239_35) ?_
    refine Eq.trans (s_iloadn f_239_36 rfl) ?_
    exact s_call [zI v2, zI 0, zI (M 152 s1)] [] f_239_37 rfl c_239_58 rfl rfl (Nat.le_of_ble_eq_true rfl) rfl
  · refine Eq.trans (s_bipush f_239_31) ?_
    exact s_iret f_239_33 t_239
theorem q_239_40 {d : Nat} (v1 v2 v3 s0 : Int) (M : ZM) : Q d 239 40 [zR 138, zI v1, zI v2, zI v3, zU, zU, zU] [zI s0] M = if s0 ≠ 0 then (Cb (E d 236 [zR 138] M) (fun v h => zrun (zevl d) 239 50 [zR 138, zI v1, zI v2, zI v3, zU, zU, zU] (v.toList ++ []) h)) else (Rt (some (zI (-102))) M) := by
  refine Eq.trans (s_if (P := s0 ≠ 0) 46 f_239_40 (by decide) rfl) (ite_cg (fun h1 => ?_) (fun h1 => ?_))
  · refine Eq.trans (s_aloadn f_239_46 rfl) ?_
    exact s_call [zR 138] [] f_239_47 rfl c_239_252 rfl rfl (Nat.le_of_ble_eq_true rfl) (by show (zkn SH 138 == zown 236) = true; rw [show zkn SH 138 = 10 from kn_138]; rfl)
  · refine Eq.trans (s_bipush f_239_43) ?_
    exact s_iret f_239_45 t_239
theorem q_239_50 {d : Nat} (v1 v2 v3 s0 : Int) (M : ZM) : Q d 239 50 [zR 138, zI v1, zI v2, zI v3, zU, zU, zU] [zI s0] M = Q d 239 55 [zR 138, zI v1, zI v2, zI v3, zI s0, zI 0, zU] [] M := by
  refine Eq.trans (s_istore f_239_50 rfl) ?_
  refine Eq.trans (s_iconst f_239_52) ?_
  refine Eq.trans (s_istore f_239_53 rfl) ?_
  rfl
theorem q_239_55 {d : Nat} (v1 v2 v3 v4 v5 : Int) (z6 : ZV) (M : ZM) : Q d 239 55 [zR 138, zI v1, zI v2, zI v3, zI v4, zI v5, z6] [] M = if v2 ≤ v5 then (Rt (some (zI (zw ((v4).tdiv 64)))) M) else (Q d 239 64 [zR 138, zI v1, zI v2, zI v3, zI v4, zI v5, zI 0] [] M) := by
  refine Eq.trans (s_iload f_239_55 rfl) ?_
  refine Eq.trans (s_iloadn f_239_57 rfl) ?_
  refine Eq.trans (s_icmp (P := v2 ≤ v5) 123 f_239_58 (by decide) rfl) (ite_cg (fun h1 => ?_) (fun h1 => ?_))
  · refine Eq.trans (s_iload f_239_123 rfl) ?_
    refine Eq.trans (s_bipush f_239_125) ?_
    refine Eq.trans (s_idiv f_239_127) (Eq.trans (if_pos (by decide)) ?_)
    exact s_iret f_239_128 t_239
  · refine Eq.trans (s_iconst f_239_61) ?_
    refine Eq.trans (s_istore f_239_62 rfl) ?_
    rfl
theorem q_239_64 {d : Nat} (v1 v2 v3 v4 v5 v6 : Int) (M : ZM) : Q d 239 64 [zR 138, zI v1, zI v2, zI v3, zI v4, zI v5, zI v6] [] M = Cb (E d 235 [zR 138, zI v4, zI v6] M) (fun v h => zrun (zevl d) 239 72 [zR 138, zI v1, zI v2, zI v3, zI v4, zI v5, zI v6] (v.toList ++ []) h) := by
  refine Eq.trans (s_aloadn f_239_64 rfl) ?_
  refine Eq.trans (s_iload f_239_65 rfl) ?_
  refine Eq.trans (s_iload f_239_67 rfl) ?_
  exact s_call [zR 138, zI v4, zI v6] [] f_239_69 rfl c_239_255 rfl rfl (Nat.le_of_ble_eq_true rfl) (by show (zkn SH 138 == zown 235) = true; rw [show zkn SH 138 = 10 from kn_138]; rfl)
theorem q_239_72 {d : Nat} (v1 v2 v3 v4 v5 v6 s0 : Int) (M : ZM) : Q d 239 72 [zR 138, zI v1, zI v2, zI v3, zI v4, zI v5, zI v6] [zI s0] M = if s0 = (-1) then (Q d 239 64 [zR 138, zI v1, zI v2, zI v3, zI v4, zI v5, zI (zw (v6 + 1))] [] M) else (Cb (E d 235 [zR 138, zI v4, zI v6] M) (fun v h => zrun (zevl d) 239 88 [zR 138, zI v1, zI v2, zI v3, zI v4, zI v5, zI v6] (v.toList ++ [zR 152]) h)) := by
  refine Eq.trans (s_iconst f_239_72) ?_
  refine Eq.trans (s_icmp (P := s0 = (-1)) 101 f_239_73 (by decide) rfl) (ite_cg (fun h1 => ?_) (fun h1 => ?_))
  · refine Eq.trans (s_iinc f_239_101 rfl rfl) ?_
    refine Eq.trans (s_goto 64 f_239_104 (by decide)) ?_
    rfl
  · refine Eq.trans (s_aloadn f_239_76 rfl) ?_
    refine Eq.trans (s_getR f_239_77 g_239_55 (by decide) kn_138 rf_138_24) ?_
    refine Eq.trans (s_aloadn f_239_80 rfl) ?_
    refine Eq.trans (s_iload f_239_81 rfl) ?_
    refine Eq.trans (s_iload f_239_83 rfl) ?_
    exact s_call [zR 138, zI v4, zI v6] [zR 152] f_239_85 rfl c_239_255 rfl rfl (Nat.le_of_ble_eq_true rfl) (by show (zkn SH 138 == zown 235) = true; rw [show zkn SH 138 = 10 from kn_138]; rfl)
theorem q_239_88 {d : Nat} (v1 v2 v3 v4 v5 v6 s1 : Int) (M : ZM) : Q d 239 88 [zR 138, zI v1, zI v2, zI v3, zI v4, zI v5, zI v6] [zI s1, zR 152] M = if 0 ≤ s1 ∧ s1 < 768 then if 0 ≤ v4 ∧ v4 < 768 then if (M 152 s1) = (zw ((M 152 v4) - 1)) then (Cb (E d 235 [zR 138, zI v4, zI v6] M) (fun v h => zrun (zevl d) 239 115 [zR 138, zI v1, zI v2, zI v3, zI v4, zI v5, zI v6] (v.toList ++ []) h)) else (Q d 239 64 [zR 138, zI v1, zI v2, zI v3, zI v4, zI v5, zI (zw (v6 + 1))] [] M) else none else none := by
  refine Eq.trans (s_iald f_239_88 kn_152 ln_152) (gd_cg fun h1 => ?_)
  refine Eq.trans (s_aloadn f_239_89 rfl) ?_
  refine Eq.trans (s_getR f_239_90 g_239_55 (by decide) kn_138 rf_138_24) ?_
  refine Eq.trans (s_iload f_239_93 rfl) ?_
  refine Eq.trans (s_iald f_239_95 kn_152 ln_152) (gd_cg fun h2 => ?_)
  refine Eq.trans (s_iconst f_239_96) ?_
  refine Eq.trans (s_isub f_239_97) ?_
  refine Eq.trans (s_icmp (P := (M 152 s1) = (zw ((M 152 v4) - 1))) 107 f_239_98 (by decide) rfl) (ite_cg (fun h3 => ?_) (fun h3 => ?_))
  · refine Eq.trans (s_aloadn f_239_107 rfl) ?_
    refine Eq.trans (s_iload f_239_108 rfl) ?_
    refine Eq.trans (s_iload f_239_110 rfl) ?_
    exact s_call [zR 138, zI v4, zI v6] [] f_239_112 rfl c_239_255 rfl rfl (Nat.le_of_ble_eq_true rfl) (by show (zkn SH 138 == zown 235) = true; rw [show zkn SH 138 = 10 from kn_138]; rfl)
  · refine Eq.trans (s_iinc f_239_101 rfl rfl) ?_
    refine Eq.trans (s_goto 64 f_239_104 (by decide)) ?_
    rfl
theorem q_239_115 {d : Nat} (v1 v2 v3 v4 v5 v6 s0 : Int) (M : ZM) : Q d 239 115 [zR 138, zI v1, zI v2, zI v3, zI v4, zI v5, zI v6] [zI s0] M = Q d 239 55 [zR 138, zI v1, zI v2, zI v3, zI s0, zI (zw (v5 + 1)), zI v6] [] M := by
  refine Eq.trans (s_istore f_239_115 rfl) ?_
  refine Eq.trans (s_iinc f_239_117 rfl rfl) ?_
  refine Eq.trans (s_goto 55 f_239_120 (by decide)) ?_
  rfl
theorem en_239 {d : Nat} (v1 v2 : Int) (M : ZM) : E (d + 1) 239 [zR 138, zI v1, zI v2] M = Q d 239 0 [zR 138, zI v1, zI v2, zU, zU, zU, zU] [] M := e_in (Nat.le_of_ble_eq_true rfl)
-- DungeonBuilderModel.criticalLength()I
theorem q_240_0 {d : Nat} (M : ZM) : Q d 240 0 [zR 138, zU, zU] [] M = if (M 139 120) ≠ 0 then (Q d 240 17 [zR 138, zI 0, zI 0] [] M) else (Rt (some (zI (-104))) M) := by
  refine Eq.trans (s_aloadn f_240_0 rfl) ?_
  refine Eq.trans (s_getR f_240_1 g_240_7 (by decide) kn_138 rf_138_0) ?_
  refine Eq.trans (s_bipush f_240_4) ?_
  refine Eq.trans (s_iald f_240_6 kn_139 ln_139) (Eq.trans (if_pos (by decide)) ?_)
  refine Eq.trans (s_if (P := (M 139 120) ≠ 0) 13 f_240_7 (by decide) rfl) (ite_cg (fun h1 => ?_) (fun h1 => ?_))
  · refine Eq.trans (s_iconst f_240_13) ?_
    refine Eq.trans (s_istoren f_240_14 rfl) ?_
    refine Eq.trans (s_iconst f_240_15) ?_
    refine Eq.trans (s_istoren f_240_16 rfl) ?_
    rfl
  · refine Eq.trans (s_bipush f_240_10) ?_
    exact s_iret f_240_12 t_240
theorem q_240_17 {d : Nat} (v1 v2 : Int) (M : ZM) : Q d 240 17 [zR 138, zI v1, zI v2] [] M = if (M 139 120) ≤ v2 then (Rt (some (zI v1)) M) else (Cb (E d 237 [zR 138, zI v2] M) (fun v h => zrun (zevl d) 240 33 [zR 138, zI v1, zI v2] (v.toList ++ []) h)) := by
  refine Eq.trans (s_iloadn f_240_17 rfl) ?_
  refine Eq.trans (s_aloadn f_240_18 rfl) ?_
  refine Eq.trans (s_getR f_240_19 g_240_7 (by decide) kn_138 rf_138_0) ?_
  refine Eq.trans (s_bipush f_240_22) ?_
  refine Eq.trans (s_iald f_240_24 kn_139 ln_139) (Eq.trans (if_pos (by decide)) ?_)
  refine Eq.trans (s_icmp (P := (M 139 120) ≤ v2) 66 f_240_25 (by decide) rfl) (ite_cg (fun h1 => ?_) (fun h1 => ?_))
  · refine Eq.trans (s_iloadn f_240_66 rfl) ?_
    exact s_iret f_240_67 t_240
  · refine Eq.trans (s_aloadn f_240_28 rfl) ?_
    refine Eq.trans (s_iloadn f_240_29 rfl) ?_
    exact s_call [zR 138, zI v2] [] f_240_30 rfl c_240_249 rfl rfl (Nat.le_of_ble_eq_true rfl) (by show (zkn SH 138 == zown 237) = true; rw [show zkn SH 138 = 10 from kn_138]; rfl)
theorem q_240_33 {d : Nat} (v1 v2 : Int) (M : ZM) : Q d 240 33 [zR 138, zI v1, zI v2] [] M = Cb (E d 236 [zR 138] M) (fun v h => zrun (zevl d) 240 41 [zR 138, zI v1, zI v2] (v.toList ++ [zR 152]) h) := by
  refine Eq.trans (s_aloadn f_240_33 rfl) ?_
  refine Eq.trans (s_getR f_240_34 g_240_55 (by decide) kn_138 rf_138_24) ?_
  refine Eq.trans (s_aloadn f_240_37 rfl) ?_
  exact s_call [zR 138] [zR 152] f_240_38 rfl c_240_252 rfl rfl (Nat.le_of_ble_eq_true rfl) (by show (zkn SH 138 == zown 236) = true; rw [show zkn SH 138 = 10 from kn_138]; rfl)
theorem q_240_41 {d : Nat} (v1 v2 s1 : Int) (M : ZM) : Q d 240 41 [zR 138, zI v1, zI v2] [zI s1, zR 152] M = if 0 ≤ s1 ∧ s1 < 768 then if (M 152 s1) ≤ v1 then (Q d 240 17 [zR 138, zI v1, zI (zw (v2 + 1))] [] M) else (Cb (E d 236 [zR 138] M) (fun v h => zrun (zevl d) 240 54 [zR 138, zI v1, zI v2] (v.toList ++ [zR 152]) h)) else none := by
  refine Eq.trans (s_iald f_240_41 kn_152 ln_152) (gd_cg fun h1 => ?_)
  refine Eq.trans (s_iloadn f_240_42 rfl) ?_
  refine Eq.trans (s_icmp (P := (M 152 s1) ≤ v1) 58 f_240_43 (by decide) rfl) (ite_cg (fun h2 => ?_) (fun h2 => ?_))
  · refine Eq.trans (s_iloadn f_240_58 rfl) ?_
    refine Eq.trans (s_istoren f_240_59 rfl) ?_
    refine Eq.trans (s_iinc f_240_60 rfl rfl) ?_
    refine Eq.trans (s_goto 17 f_240_63 (by decide)) ?_
    rfl
  · refine Eq.trans (s_aloadn f_240_46 rfl) ?_
    refine Eq.trans (s_getR f_240_47 g_240_55 (by decide) kn_138 rf_138_24) ?_
    refine Eq.trans (s_aloadn f_240_50 rfl) ?_
    exact s_call [zR 138] [zR 152] f_240_51 rfl c_240_252 rfl rfl (Nat.le_of_ble_eq_true rfl) (by show (zkn SH 138 == zown 236) = true; rw [show zkn SH 138 = 10 from kn_138]; rfl)
theorem q_240_54 {d : Nat} (v1 v2 s1 : Int) (M : ZM) : Q d 240 54 [zR 138, zI v1, zI v2] [zI s1, zR 152] M = if 0 ≤ s1 ∧ s1 < 768 then Q d 240 17 [zR 138, zI (M 152 s1), zI (zw (v2 + 1))] [] M else none := by
  refine Eq.trans (s_iald f_240_54 kn_152 ln_152) (gd_cg fun h1 => ?_)
  refine Eq.trans (s_goto 59 f_240_55 (by decide)) ?_
  refine Eq.trans (s_istoren f_240_59 rfl) ?_
  refine Eq.trans (s_iinc f_240_60 rfl rfl) ?_
  refine Eq.trans (s_goto 17 f_240_63 (by decide)) ?_
  rfl
theorem en_240 {d : Nat} (M : ZM) : E (d + 1) 240 [zR 138] M = Q d 240 0 [zR 138, zU, zU] [] M := e_in (Nat.le_of_ble_eq_true rfl)
-- DungeonBuilderModel.tension(I)I
theorem q_241_0 {d : Nat} (v1 : Int) (M : ZM) : Q d 241 0 [zR 138, zI v1] [] M = Cb (E d 194 [zR 138] M) (fun v h => zrun (zevl d) 241 4 [zR 138, zI v1] (v.toList ++ []) h) := by
  refine Eq.trans (s_aloadn f_241_0 rfl) ?_
  exact s_call [zR 138] [] f_241_1 rfl c_241_240 rfl rfl (Nat.le_of_ble_eq_true rfl) (by show (zkn SH 138 == zown 194) = true; rw [show zkn SH 138 = 10 from kn_138]; rfl)
theorem q_241_4 {d : Nat} (v1 : Int) (M : ZM) : Q d 241 4 [zR 138, zI v1] [] M = Cb (E d 153 [zI v1, zI 1, zI (zw ((M 138 13) - 1))] M) (fun v h => zrun (zevl d) 241 15 [zR 138, zI v1] (v.toList ++ []) h) := by
  refine Eq.trans (s_iloadn f_241_4 rfl) ?_
  refine Eq.trans (s_iconst f_241_5) ?_
  refine Eq.trans (s_aloadn f_241_6 rfl) ?_
  refine Eq.trans (s_getI f_241_7 g_241_167 (by decide) kn_138) ?_
  refine Eq.trans (s_iconst f_241_10) ?_
  refine Eq.trans (s_isub f_241_11) ?_
  exact s_call [zI v1, zI 1, zI (zw ((M 138 13) - 1))] [] f_241_12 rfl c_241_58 rfl rfl (Nat.le_of_ble_eq_true rfl) rfl
theorem q_241_15 {d : Nat} (v1 s0 : Int) (M : ZM) : Q d 241 15 [zR 138, zI v1] [zI s0] M = if s0 ≠ 0 then (if 0 ≤ v1 ∧ v1 < 12 then Cb (E d 190 [zR 138, zI (M 146 v1)] M) (fun v h => zrun (zevl d) 241 31 [zR 138, zI v1] (v.toList ++ []) h) else none) else (Rt (some (zI (-101))) M) := by
  refine Eq.trans (s_if (P := s0 ≠ 0) 21 f_241_15 (by decide) rfl) (ite_cg (fun h1 => ?_) (fun h1 => ?_))
  · refine Eq.trans (s_aloadn f_241_21 rfl) ?_
    refine Eq.trans (s_aloadn f_241_22 rfl) ?_
    refine Eq.trans (s_getR f_241_23 g_241_31 (by decide) kn_138 rf_138_12) ?_
    refine Eq.trans (s_iloadn f_241_26 rfl) ?_
    refine Eq.trans (s_iald f_241_27 kn_146 ln_146) (gd_cg fun h2 => ?_)
    exact s_call [zR 138, zI (M 146 v1)] [] f_241_28 rfl c_241_176 rfl rfl (Nat.le_of_ble_eq_true rfl) (by show (zkn SH 138 == zown 190) = true; rw [show zkn SH 138 = 10 from kn_138]; rfl)
  · refine Eq.trans (s_bipush f_241_18) ?_
    exact s_iret f_241_20 t_241
theorem q_241_31 {d : Nat} (v1 s0 : Int) (M : ZM) : Q d 241 31 [zR 138, zI v1] [zI s0] M = if 0 ≤ (zw (v1 - 1)) ∧ (zw (v1 - 1)) < 12 then Cb (E d 190 [zR 138, zI (M 146 (zw (v1 - 1)))] M) (fun v h => zrun (zevl d) 241 43 [zR 138, zI v1] (v.toList ++ [zI s0]) h) else none := by
  refine Eq.trans (s_aloadn f_241_31 rfl) ?_
  refine Eq.trans (s_aloadn f_241_32 rfl) ?_
  refine Eq.trans (s_getR f_241_33 g_241_31 (by decide) kn_138 rf_138_12) ?_
  refine Eq.trans (s_iloadn f_241_36 rfl) ?_
  refine Eq.trans (s_iconst f_241_37) ?_
  refine Eq.trans (s_isub f_241_38) ?_
  refine Eq.trans (s_iald f_241_39 kn_146 ln_146) (gd_cg fun h1 => ?_)
  exact s_call [zR 138, zI (M 146 (zw (v1 - 1)))] [zI s0] f_241_40 rfl c_241_176 rfl rfl (Nat.le_of_ble_eq_true rfl) (by show (zkn SH 138 == zown 190) = true; rw [show zkn SH 138 = 10 from kn_138]; rfl)
theorem q_241_43 {d : Nat} (v1 s0 s1 : Int) (M : ZM) : Q d 241 43 [zR 138, zI v1] [zI s1, zI s0] M = Rt (some (zI (zw ((zw (s0 - s1)) + 1000)))) M := by
  refine Eq.trans (s_isub f_241_43) ?_
  refine Eq.trans (s_sipush f_241_44) ?_
  refine Eq.trans (s_iadd f_241_47) ?_
  exact s_iret f_241_48 t_241
theorem en_241 {d : Nat} (v1 : Int) (M : ZM) : E (d + 1) 241 [zR 138, zI v1] M = Q d 241 0 [zR 138, zI v1] [] M := e_in (Nat.le_of_ble_eq_true rfl)
-- DungeonBuilderModel.drops()I
theorem q_242_0 {d : Nat} (M : ZM) : Q d 242 0 [zR 138, zU, zU] [] M = Cb (E d 194 [zR 138] M) (fun v h => zrun (zevl d) 242 4 [zR 138, zU, zU] (v.toList ++ []) h) := by
  refine Eq.trans (s_aloadn f_242_0 rfl) ?_
  exact s_call [zR 138] [] f_242_1 rfl c_242_240 rfl rfl (Nat.le_of_ble_eq_true rfl) (by show (zkn SH 138 == zown 194) = true; rw [show zkn SH 138 = 10 from kn_138]; rfl)
theorem q_242_4 {d : Nat} (M : ZM) : Q d 242 4 [zR 138, zU, zU] [] M = Q d 242 8 [zR 138, zI 0, zI 1] [] M := by
  refine Eq.trans (s_iconst f_242_4) ?_
  refine Eq.trans (s_istoren f_242_5 rfl) ?_
  refine Eq.trans (s_iconst f_242_6) ?_
  refine Eq.trans (s_istoren f_242_7 rfl) ?_
  rfl
theorem q_242_8 {d : Nat} (v1 v2 : Int) (M : ZM) : Q d 242 8 [zR 138, zI v1, zI v2] [] M = if (M 138 13) ≤ v2 then (Rt (some (zI v1)) M) else (if 0 ≤ v2 ∧ v2 < 12 then Cb (E d 190 [zR 138, zI (M 146 v2)] M) (fun v h => zrun (zevl d) 242 27 [zR 138, zI v1, zI v2] (v.toList ++ [zI v1]) h) else none) := by
  refine Eq.trans (s_iloadn f_242_8 rfl) ?_
  refine Eq.trans (s_aloadn f_242_9 rfl) ?_
  refine Eq.trans (s_getI f_242_10 g_242_167 (by decide) kn_138) ?_
  refine Eq.trans (s_icmp (P := (M 138 13) ≤ v2) 55 f_242_13 (by decide) rfl) (ite_cg (fun h1 => ?_) (fun h1 => ?_))
  · refine Eq.trans (s_iloadn f_242_55 rfl) ?_
    exact s_iret f_242_56 t_242
  · refine Eq.trans (s_iloadn f_242_16 rfl) ?_
    refine Eq.trans (s_aloadn f_242_17 rfl) ?_
    refine Eq.trans (s_aloadn f_242_18 rfl) ?_
    refine Eq.trans (s_getR f_242_19 g_242_31 (by decide) kn_138 rf_138_12) ?_
    refine Eq.trans (s_iloadn f_242_22 rfl) ?_
    refine Eq.trans (s_iald f_242_23 kn_146 ln_146) (gd_cg fun h2 => ?_)
    exact s_call [zR 138, zI (M 146 v2)] [zI v1] f_242_24 rfl c_242_176 rfl rfl (Nat.le_of_ble_eq_true rfl) (by show (zkn SH 138 == zown 190) = true; rw [show zkn SH 138 = 10 from kn_138]; rfl)
theorem q_242_27 {d : Nat} (v1 v2 s0 s1 : Int) (M : ZM) : Q d 242 27 [zR 138, zI v1, zI v2] [zI s1, zI s0] M = if 0 ≤ (zw (v2 - 1)) ∧ (zw (v2 - 1)) < 12 then Cb (E d 190 [zR 138, zI (M 146 (zw (v2 - 1)))] M) (fun v h => zrun (zevl d) 242 39 [zR 138, zI v1, zI v2] (v.toList ++ [zI s1, zI s0]) h) else none := by
  refine Eq.trans (s_aloadn f_242_27 rfl) ?_
  refine Eq.trans (s_aloadn f_242_28 rfl) ?_
  refine Eq.trans (s_getR f_242_29 g_242_31 (by decide) kn_138 rf_138_12) ?_
  refine Eq.trans (s_iloadn f_242_32 rfl) ?_
  refine Eq.trans (s_iconst f_242_33) ?_
  refine Eq.trans (s_isub f_242_34) ?_
  refine Eq.trans (s_iald f_242_35 kn_146 ln_146) (gd_cg fun h1 => ?_)
  exact s_call [zR 138, zI (M 146 (zw (v2 - 1)))] [zI s1, zI s0] f_242_36 rfl c_242_176 rfl rfl (Nat.le_of_ble_eq_true rfl) (by show (zkn SH 138 == zown 190) = true; rw [show zkn SH 138 = 10 from kn_138]; rfl)
theorem q_242_39 {d : Nat} (v1 v2 s0 s1 s2 : Int) (M : ZM) : Q d 242 39 [zR 138, zI v1, zI v2] [zI s2, zI s1, zI s0] M = if s2 ≤ s1 then (Q d 242 8 [zR 138, zI (zw (s0 + 0)), zI (zw (v2 + 1))] [] M) else (Q d 242 8 [zR 138, zI (zw (s0 + 1)), zI (zw (v2 + 1))] [] M) := by
  refine Eq.trans (s_icmp (P := s2 ≤ s1) 46 f_242_39 (by decide) rfl) (ite_cg (fun h1 => ?_) (fun h1 => ?_))
  · refine Eq.trans (s_iconst f_242_46) ?_
    refine Eq.trans (s_iadd f_242_47) ?_
    refine Eq.trans (s_istoren f_242_48 rfl) ?_
    refine Eq.trans (s_iinc f_242_49 rfl rfl) ?_
    refine Eq.trans (s_goto 8 f_242_52 (by decide)) ?_
    rfl
  · refine Eq.trans (s_iconst f_242_42) ?_
    refine Eq.trans (s_goto 47 f_242_43 (by decide)) ?_
    refine Eq.trans (s_iadd f_242_47) ?_
    refine Eq.trans (s_istoren f_242_48 rfl) ?_
    refine Eq.trans (s_iinc f_242_49 rfl rfl) ?_
    refine Eq.trans (s_goto 8 f_242_52 (by decide)) ?_
    rfl
theorem en_242 {d : Nat} (M : ZM) : E (d + 1) 242 [zR 138] M = Q d 242 0 [zR 138, zU, zU] [] M := e_in (Nat.le_of_ble_eq_true rfl)
-- DungeonBuilderModel.backtracking()I
theorem q_243_0 {d : Nat} (M : ZM) : Q d 243 0 [zR 138, zU, zU] [] M = Cb (E d 194 [zR 138] M) (fun v h => zrun (zevl d) 243 4 [zR 138, zU, zU] (v.toList ++ []) h) := by
  refine Eq.trans (s_aloadn f_243_0 rfl) ?_
  exact s_call [zR 138] [] f_243_1 rfl c_243_240 rfl rfl (Nat.le_of_ble_eq_true rfl) (by show (zkn SH 138 == zown 194) = true; rw [show zkn SH 138 = 10 from kn_138]; rfl)
theorem q_243_4 {d : Nat} (M : ZM) : Q d 243 4 [zR 138, zU, zU] [] M = Q d 243 8 [zR 138, zI 0, zI 1] [] M := by
  refine Eq.trans (s_iconst f_243_4) ?_
  refine Eq.trans (s_istoren f_243_5 rfl) ?_
  refine Eq.trans (s_iconst f_243_6) ?_
  refine Eq.trans (s_istoren f_243_7 rfl) ?_
  rfl
theorem q_243_8 {d : Nat} (v1 v2 : Int) (M : ZM) : Q d 243 8 [zR 138, zI v1, zI v2] [] M = if (M 138 13) ≤ v2 then (Rt (some (zI v1)) M) else (if 0 ≤ (zw (v2 - 1)) ∧ (zw (v2 - 1)) < 12 then Cb (E d 187 [zR 138, zI (M 146 (zw (v2 - 1))), zI (-1)] M) (fun v h => zrun (zevl d) 243 29 [zR 138, zI v1, zI v2] (v.toList ++ []) h) else none) := by
  refine Eq.trans (s_iloadn f_243_8 rfl) ?_
  refine Eq.trans (s_aloadn f_243_9 rfl) ?_
  refine Eq.trans (s_getI f_243_10 g_243_167 (by decide) kn_138) ?_
  refine Eq.trans (s_icmp (P := (M 138 13) ≤ v2) 49 f_243_13 (by decide) rfl) (ite_cg (fun h1 => ?_) (fun h1 => ?_))
  · refine Eq.trans (s_iloadn f_243_49 rfl) ?_
    exact s_iret f_243_50 t_243
  · refine Eq.trans (s_aloadn f_243_16 rfl) ?_
    refine Eq.trans (s_aloadn f_243_17 rfl) ?_
    refine Eq.trans (s_getR f_243_18 g_243_31 (by decide) kn_138 rf_138_12) ?_
    refine Eq.trans (s_iloadn f_243_21 rfl) ?_
    refine Eq.trans (s_iconst f_243_22) ?_
    refine Eq.trans (s_isub f_243_23) ?_
    refine Eq.trans (s_iald f_243_24 kn_146 ln_146) (gd_cg fun h2 => ?_)
    refine Eq.trans (s_iconst f_243_25) ?_
    exact s_call [zR 138, zI (M 146 (zw (v2 - 1))), zI (-1)] [] f_243_26 rfl c_243_154 rfl rfl (Nat.le_of_ble_eq_true rfl) (by show (zkn SH 138 == zown 187) = true; rw [show zkn SH 138 = 10 from kn_138]; rfl)
theorem q_243_29 {d : Nat} (v1 v2 : Int) (M : ZM) : Q d 243 29 [zR 138, zI v1, zI v2] [] M = if 0 ≤ v2 ∧ v2 < 12 then if 0 ≤ (M 146 v2) ∧ (M 146 v2) < 12 then Q d 243 8 [zR 138, zI (zw (v1 + (M 145 (M 146 v2)))), zI (zw (v2 + 1))] [] M else none else none := by
  refine Eq.trans (s_iloadn f_243_29 rfl) ?_
  refine Eq.trans (s_aloadn f_243_30 rfl) ?_
  refine Eq.trans (s_getR f_243_31 g_243_28 (by decide) kn_138 rf_138_11) ?_
  refine Eq.trans (s_aloadn f_243_34 rfl) ?_
  refine Eq.trans (s_getR f_243_35 g_243_31 (by decide) kn_138 rf_138_12) ?_
  refine Eq.trans (s_iloadn f_243_38 rfl) ?_
  refine Eq.trans (s_iald f_243_39 kn_146 ln_146) (gd_cg fun h1 => ?_)
  refine Eq.trans (s_iald f_243_40 kn_145 ln_145) (gd_cg fun h2 => ?_)
  refine Eq.trans (s_iadd f_243_41) ?_
  refine Eq.trans (s_istoren f_243_42 rfl) ?_
  refine Eq.trans (s_iinc f_243_43 rfl rfl) ?_
  refine Eq.trans (s_goto 8 f_243_46 (by decide)) ?_
  rfl
theorem en_243 {d : Nat} (M : ZM) : E (d + 1) 243 [zR 138] M = Q d 243 0 [zR 138, zU, zU] [] M := e_in (Nat.le_of_ble_eq_true rfl)
-- DungeonBuilderModel.save()I
theorem q_245_0 {d : Nat} (M : ZM) : Q d 245 0 [zR 138, zU] [] M = Q d 245 7 [zR 138, zI 0] [] (zwr M 138 4 1) := by
  refine Eq.trans (s_aloadn f_245_0 rfl) ?_
  refine Eq.trans (s_iconst f_245_1) ?_
  refine Eq.trans (s_putZ f_245_2 g_245_268 (by decide) kn_138 (by decide)) ?_
  refine Eq.trans (s_iconst f_245_5) ?_
  refine Eq.trans (s_istoren f_245_6 rfl) ?_
  rfl
theorem q_245_7 {d : Nat} (v1 : Int) (M : ZM) : Q d 245 7 [zR 138, zI v1] [] M = if 124 ≤ v1 then (Rt (some (zI (M 139 120))) M) else (if 0 ≤ v1 ∧ v1 < 124 then if 0 ≤ v1 ∧ v1 < 124 then Q d 245 7 [zR 138, zI (zw (v1 + 1))] [] (zwr M 141 v1 (M 139 v1)) else none else none) := by
  refine Eq.trans (s_iloadn f_245_7 rfl) ?_
  refine Eq.trans (s_bipush f_245_8) ?_
  refine Eq.trans (s_icmp (P := 124 ≤ v1) 31 f_245_10 (by decide) rfl) (ite_cg (fun h1 => ?_) (fun h1 => ?_))
  · refine Eq.trans (s_aloadn f_245_31 rfl) ?_
    refine Eq.trans (s_getR f_245_32 g_245_7 (by decide) kn_138 rf_138_0) ?_
    refine Eq.trans (s_bipush f_245_35) ?_
    refine Eq.trans (s_iald f_245_37 kn_139 ln_139) (Eq.trans (if_pos (by decide)) ?_)
    exact s_iret f_245_38 t_245
  · refine Eq.trans (s_aloadn f_245_13 rfl) ?_
    refine Eq.trans (s_getR f_245_14 g_245_16 (by decide) kn_138 rf_138_3) ?_
    refine Eq.trans (s_iloadn f_245_17 rfl) ?_
    refine Eq.trans (s_aloadn f_245_18 rfl) ?_
    refine Eq.trans (s_getR f_245_19 g_245_7 (by decide) kn_138 rf_138_0) ?_
    refine Eq.trans (s_iloadn f_245_22 rfl) ?_
    refine Eq.trans (s_iald f_245_23 kn_139 ln_139) (gd_cg fun h2 => ?_)
    refine Eq.trans (s_iast f_245_24 kn_141 ln_141) (gd_cg fun h3 => ?_)
    refine Eq.trans (s_iinc f_245_25 rfl rfl) ?_
    refine Eq.trans (s_goto 7 f_245_28 (by decide)) ?_
    rfl
theorem en_245 {d : Nat} (M : ZM) : E (d + 1) 245 [zR 138] M = Q d 245 0 [zR 138, zU] [] M := e_in (Nat.le_of_ble_eq_true rfl)
-- DungeonBuilderModel.restore()I
theorem q_246_0 {d : Nat} (M : ZM) : Q d 246 0 [zR 138, zU] [] M = if (M 138 4) ≠ 0 then (Q d 246 12 [zR 138, zI 0] [] M) else (Rt (some (zI (-105))) M) := by
  refine Eq.trans (s_aloadn f_246_0 rfl) ?_
  refine Eq.trans (s_getI f_246_1 g_246_268 (by decide) kn_138) ?_
  refine Eq.trans (s_if (P := (M 138 4) ≠ 0) 10 f_246_4 (by decide) rfl) (ite_cg (fun h1 => ?_) (fun h1 => ?_))
  · refine Eq.trans (s_iconst f_246_10) ?_
    refine Eq.trans (s_istoren f_246_11 rfl) ?_
    rfl
  · refine Eq.trans (s_bipush f_246_7) ?_
    exact s_iret f_246_9 t_246
theorem q_246_12 {d : Nat} (v1 : Int) (M : ZM) : Q d 246 12 [zR 138, zI v1] [] M = if 124 ≤ v1 then (Rt (some (zI ((zwr M 138 2 0) 139 120))) (zwr M 138 2 0)) else (if 0 ≤ v1 ∧ v1 < 124 then if 0 ≤ v1 ∧ v1 < 124 then Q d 246 12 [zR 138, zI (zw (v1 + 1))] [] (zwr M 139 v1 (M 141 v1)) else none else none) := by
  refine Eq.trans (s_iloadn f_246_12 rfl) ?_
  refine Eq.trans (s_bipush f_246_13) ?_
  refine Eq.trans (s_icmp (P := 124 ≤ v1) 36 f_246_15 (by decide) rfl) (ite_cg (fun h1 => ?_) (fun h1 => ?_))
  · refine Eq.trans (s_aloadn f_246_36 rfl) ?_
    refine Eq.trans (s_iconst f_246_37) ?_
    refine Eq.trans (s_putI f_246_38 g_246_76 (by decide) kn_138) ?_
    refine Eq.trans (s_aloadn f_246_41 rfl) ?_
    refine Eq.trans (s_getR f_246_42 g_246_7 (by decide) kn_138 rf_138_0) ?_
    refine Eq.trans (s_bipush f_246_45) ?_
    refine Eq.trans (s_iald f_246_47 kn_139 ln_139) (Eq.trans (if_pos (by decide)) ?_)
    exact s_iret f_246_48 t_246
  · refine Eq.trans (s_aloadn f_246_18 rfl) ?_
    refine Eq.trans (s_getR f_246_19 g_246_7 (by decide) kn_138 rf_138_0) ?_
    refine Eq.trans (s_iloadn f_246_22 rfl) ?_
    refine Eq.trans (s_aloadn f_246_23 rfl) ?_
    refine Eq.trans (s_getR f_246_24 g_246_16 (by decide) kn_138 rf_138_3) ?_
    refine Eq.trans (s_iloadn f_246_27 rfl) ?_
    refine Eq.trans (s_iald f_246_28 kn_141 ln_141) (gd_cg fun h2 => ?_)
    refine Eq.trans (s_iast f_246_29 kn_139 ln_139) (gd_cg fun h3 => ?_)
    refine Eq.trans (s_iinc f_246_30 rfl rfl) ?_
    refine Eq.trans (s_goto 12 f_246_33 (by decide)) ?_
    rfl
theorem en_246 {d : Nat} (M : ZM) : E (d + 1) 246 [zR 138] M = Q d 246 0 [zR 138, zU] [] M := e_in (Nat.le_of_ble_eq_true rfl)
