-- DungeonBuilder$Architect.raise(LDungeonBuilder$Dungeon;II)V
theorem q_1_0 {d : Nat} (v2 v3 : Int) (M : ZM) : Q d 1 0 [zR 109, zR 1, zI v2, zI v3, zU] [] M = Cb (E d 14 [zR 1] (zwr (zwr (zwr (zwr M 109 11 v2) 109 8 0) 109 9 0) 109 10 0)) (fun v h => zrun (zevl d) 1 24 [zR 109, zR 1, zI v2, zI v3, zU] (v.toList ++ []) h) := by
  refine Eq.trans (s_aloadn f_1_0 rfl) ?_
  refine Eq.trans (s_iloadn f_1_1 rfl) ?_
  refine Eq.trans (s_putI f_1_2 g_1_46 (by decide) kn_109) ?_
  refine Eq.trans (s_aloadn f_1_5 rfl) ?_
  refine Eq.trans (s_iconst f_1_6) ?_
  refine Eq.trans (s_putI f_1_7 g_1_36 (by decide) kn_109) ?_
  refine Eq.trans (s_aloadn f_1_10 rfl) ?_
  refine Eq.trans (s_iconst f_1_11) ?_
  refine Eq.trans (s_putI f_1_12 g_1_40 (by decide) kn_109) ?_
  refine Eq.trans (s_aloadn f_1_15 rfl) ?_
  refine Eq.trans (s_iconst f_1_16) ?_
  refine Eq.trans (s_putI f_1_17 g_1_43 (by decide) kn_109) ?_
  refine Eq.trans (s_aloadn f_1_20 rfl) ?_
  exact s_call [zR 1] [] f_1_21 rfl c_1_49 rfl rfl (Nat.le_of_ble_eq_true rfl) (by show (zkn SH 1 == zown 14) = true; rw [show zkn SH 1 = 1 from kn_1]; rfl)
theorem q_1_24 {d : Nat} (v2 v3 : Int) (M : ZM) : Q d 1 24 [zR 109, zR 1, zI v2, zI v3, zU] [] M = Cb (E d 3 [zR 109, zI 0, zI 0, zI 24, zI 16] M) (fun v h => zrun (zevl d) 1 35 [zR 109, zR 1, zI v2, zI v3, zU] (v.toList ++ [zR 109]) h) := by
  refine Eq.trans (s_aloadn f_1_24 rfl) ?_
  refine Eq.trans (s_aloadn f_1_25 rfl) ?_
  refine Eq.trans (s_iconst f_1_26) ?_
  refine Eq.trans (s_iconst f_1_27) ?_
  refine Eq.trans (s_bipush f_1_28) ?_
  refine Eq.trans (s_bipush f_1_30) ?_
  exact s_call [zR 109, zI 0, zI 0, zI 24, zI 16] [zR 109] f_1_32 rfl c_1_54 rfl rfl (Nat.le_of_ble_eq_true rfl) (by show (zkn SH 109 == zown 3) = true; rw [show zkn SH 109 = 0 from kn_109]; rfl)
theorem q_1_35 {d : Nat} (v2 v3 s1 : Int) (M : ZM) : Q d 1 35 [zR 109, zR 1, zI v2, zI v3, zU] [zI s1, zR 109] M = Cb (E d 4 [zR 109, zI s1, zI v3] M) (fun v h => zrun (zevl d) 1 39 [zR 109, zR 1, zI v2, zI v3, zU] (v.toList ++ []) h) := by
  refine Eq.trans (s_iloadn f_1_35 rfl) ?_
  exact s_call [zR 109, zI s1, zI v3] [] f_1_36 rfl c_1_58 rfl rfl (Nat.le_of_ble_eq_true rfl) rfl
theorem q_1_39 {d : Nat} (v2 v3 : Int) (M : ZM) : Q d 1 39 [zR 109, zR 1, zI v2, zI v3, zU] [] M = Q d 1 42 [zR 109, zR 1, zI v2, zI v3, zI 0] [] M := by
  refine Eq.trans (s_iconst f_1_39) ?_
  refine Eq.trans (s_istore f_1_40 rfl) ?_
  rfl
theorem q_1_42 {d : Nat} (v2 v3 v4 : Int) (M : ZM) : Q d 1 42 [zR 109, zR 1, zI v2, zI v3, zI v4] [] M = if (M 109 9) ≤ v4 then (Q d 1 72 [zR 109, zR 1, zI v2, zI v3, zI 0] [] M) else (if 0 ≤ v4 ∧ v4 < 12 then Cb (E d 8 [zR 109, zR 1, zI (M 116 v4)] M) (fun v h => zrun (zevl d) 1 63 [zR 109, zR 1, zI v2, zI v3, zI v4] (v.toList ++ []) h) else none) := by
  refine Eq.trans (s_iload f_1_42 rfl) ?_
  refine Eq.trans (s_aloadn f_1_44 rfl) ?_
  refine Eq.trans (s_getI f_1_45 g_1_40 (by decide) kn_109) ?_
  refine Eq.trans (s_icmp (P := (M 109 9) ≤ v4) 69 f_1_48 (by decide) rfl) (ite_cg (fun h1 => ?_) (fun h1 => ?_))
  · refine Eq.trans (s_iconst f_1_69) ?_
    refine Eq.trans (s_istore f_1_70 rfl) ?_
    rfl
  · refine Eq.trans (s_aloadn f_1_51 rfl) ?_
    refine Eq.trans (s_aloadn f_1_52 rfl) ?_
    refine Eq.trans (s_aloadn f_1_53 rfl) ?_
    refine Eq.trans (s_getR f_1_54 g_1_30 (by decide) kn_109 rf_109_6) ?_
    refine Eq.trans (s_iload f_1_57 rfl) ?_
    refine Eq.trans (s_iald f_1_59 kn_116 ln_116) (gd_cg fun h2 => ?_)
    exact s_call [zR 109, zR 1, zI (M 116 v4)] [] f_1_60 rfl c_1_62 rfl rfl (Nat.le_of_ble_eq_true rfl) (by show (zkn SH 109 == zown 8) = true; rw [show zkn SH 109 = 0 from kn_109]; rfl)
theorem q_1_63 {d : Nat} (v2 v3 v4 : Int) (M : ZM) : Q d 1 63 [zR 109, zR 1, zI v2, zI v3, zI v4] [] M = Q d 1 42 [zR 109, zR 1, zI v2, zI v3, zI (zw (v4 + 1))] [] M := by
  refine Eq.trans (s_iinc f_1_63 rfl rfl) ?_
  refine Eq.trans (s_goto 42 f_1_66 (by decide)) ?_
  rfl
theorem q_1_72 {d : Nat} (v2 v3 v4 : Int) (M : ZM) : Q d 1 72 [zR 109, zR 1, zI v2, zI v3, zI v4] [] M = if (M 109 10) ≤ v4 then (Rt none M) else (if 0 ≤ v4 ∧ v4 < 12 then if 0 ≤ v4 ∧ v4 < 12 then Cb (E d 9 [zR 109, zR 1, zI (M 117 v4), zI (zw ((M 117 v4) + 1))] M) (fun v h => zrun (zevl d) 1 102 [zR 109, zR 1, zI v2, zI v3, zI v4] (v.toList ++ []) h) else none else none) := by
  refine Eq.trans (s_iload f_1_72 rfl) ?_
  refine Eq.trans (s_aloadn f_1_74 rfl) ?_
  refine Eq.trans (s_getI f_1_75 g_1_43 (by decide) kn_109) ?_
  refine Eq.trans (s_icmp (P := (M 109 10) ≤ v4) 108 f_1_78 (by decide) rfl) (ite_cg (fun h1 => ?_) (fun h1 => ?_))
  · exact s_vret f_1_108 t_1
  · refine Eq.trans (s_aloadn f_1_81 rfl) ?_
    refine Eq.trans (s_aloadn f_1_82 rfl) ?_
    refine Eq.trans (s_aloadn f_1_83 rfl) ?_
    refine Eq.trans (s_getR f_1_84 g_1_33 (by decide) kn_109 rf_109_7) ?_
    refine Eq.trans (s_iload f_1_87 rfl) ?_
    refine Eq.trans (s_iald f_1_89 kn_117 ln_117) (gd_cg fun h2 => ?_)
    refine Eq.trans (s_aloadn f_1_90 rfl) ?_
    refine Eq.trans (s_getR f_1_91 g_1_33 (by decide) kn_109 rf_109_7) ?_
    refine Eq.trans (s_iload f_1_94 rfl) ?_
    refine Eq.trans (s_iald f_1_96 kn_117 ln_117) (gd_cg fun h3 => ?_)
    refine Eq.trans (s_iconst f_1_97) ?_
    refine Eq.trans (s_iadd f_1_98) ?_
    exact s_call [zR 109, zR 1, zI (M 117 v4), zI (zw ((M 117 v4) + 1))] [] f_1_99 rfl c_1_66 rfl rfl (Nat.le_of_ble_eq_true rfl) (by show (zkn SH 109 == zown 9) = true; rw [show zkn SH 109 = 0 from kn_109]; rfl)
theorem q_1_102 {d : Nat} (v2 v3 v4 : Int) (M : ZM) : Q d 1 102 [zR 109, zR 1, zI v2, zI v3, zI v4] [] M = Q d 1 72 [zR 109, zR 1, zI v2, zI v3, zI (zw (v4 + 1))] [] M := by
  refine Eq.trans (s_iinc f_1_102 rfl rfl) ?_
  refine Eq.trans (s_goto 72 f_1_105 (by decide)) ?_
  rfl
theorem en_1 {d : Nat} (v2 v3 : Int) (M : ZM) : E (d + 1) 1 [zR 109, zR 1, zI v2, zI v3] M = Q d 1 0 [zR 109, zR 1, zI v2, zI v3, zU] [] M := e_in (Nat.le_of_ble_eq_true rfl)
-- DungeonBuilder$Architect.draw(I)I
theorem q_2_0 {d : Nat} (v1 : Int) (M : ZM) : Q d 2 0 [zR 109, zI v1] [] M = if 0 < v1 then (if v1 ≠ 0 then Rt (some (zI (((zand (zushr ((zwr M 109 11 (zw ((zw ((M 109 11) * 1103515245)) + 12345))) 109 11) 16) 32767)).tmod v1))) (zwr M 109 11 (zw ((zw ((M 109 11) * 1103515245)) + 12345))) else none) else (Rt (some (zI 0)) (zwr M 109 11 (zw ((zw ((M 109 11) * 1103515245)) + 12345)))) := by
  refine Eq.trans (s_aloadn f_2_0 rfl) ?_
  refine Eq.trans (s_aloadn f_2_1 rfl) ?_
  refine Eq.trans (s_getI f_2_2 g_2_46 (by decide) kn_109) ?_
  refine Eq.trans (s_ldc f_2_5 k_2_70) ?_
  refine Eq.trans (s_imul f_2_7) ?_
  refine Eq.trans (s_sipush f_2_8) ?_
  refine Eq.trans (s_iadd f_2_11) ?_
  refine Eq.trans (s_putI f_2_12 g_2_46 (by decide) kn_109) ?_
  refine Eq.trans (s_iloadn f_2_15 rfl) ?_
  refine Eq.trans (s_if (P := 0 < v1) 23 f_2_16 (by decide) rfl) (ite_cg (fun h1 => ?_) (fun h1 => ?_))
  · refine Eq.trans (s_aloadn f_2_23 rfl) ?_
    refine Eq.trans (s_getI f_2_24 g_2_46 (by decide) kn_109) ?_
    refine Eq.trans (s_bipush f_2_27) ?_
    refine Eq.trans (s_iushr f_2_29) ?_
    refine Eq.trans (s_sipush f_2_30) ?_
    refine Eq.trans (s_iand f_2_33) ?_
    refine Eq.trans (s_iloadn f_2_34 rfl) ?_
    refine Eq.trans (s_irem f_2_35) (gd_cg fun h2 => ?_)
    exact s_iret f_2_36 t_2
  · refine Eq.trans (s_iconst f_2_19) ?_
    refine Eq.trans (s_goto 36 f_2_20 (by decide)) ?_
    exact s_iret f_2_36 t_2
theorem en_2 {d : Nat} (v1 : Int) (M : ZM) : E (d + 1) 2 [zR 109, zI v1] M = Q d 2 0 [zR 109, zI v1] [] M := e_in (Nat.le_of_ble_eq_true rfl)
-- DungeonBuilder$Architect.addPart(IIII)I
theorem q_3_0 {d : Nat} (v1 v2 v3 v4 : Int) (M : ZM) : Q d 3 0 [zR 109, zI v1, zI v2, zI v3, zI v4] [] M = if (M 109 8) < 23 then (if 0 ≤ (M 109 8) ∧ (M 109 8) < 23 then if 0 ≤ ((zwr M 110 (M 109 8) v1) 109 8) ∧ ((zwr M 110 (M 109 8) v1) 109 8) < 23 then if 0 ≤ ((zwr (zwr M 110 (M 109 8) v1) 111 ((zwr M 110 (M 109 8) v1) 109 8) v2) 109 8) ∧ ((zwr (zwr M 110 (M 109 8) v1) 111 ((zwr M 110 (M 109 8) v1) 109 8) v2) 109 8) < 23 then if 0 ≤ ((zwr (zwr (zwr M 110 (M 109 8) v1) 111 ((zwr M 110 (M 109 8) v1) 109 8) v2) 112 ((zwr (zwr M 110 (M 109 8) v1) 111 ((zwr M 110 (M 109 8) v1) 109 8) v2) 109 8) v3) 109 8) ∧ ((zwr (zwr (zwr M 110 (M 109 8) v1) 111 ((zwr M 110 (M 109 8) v1) 109 8) v2) 112 ((zwr (zwr M 110 (M 109 8) v1) 111 ((zwr M 110 (M 109 8) v1) 109 8) v2) 109 8) v3) 109 8) < 23 then Rt (some (zI (zw (((zwr (zwr (zwr (zwr (zwr M 110 (M 109 8) v1) 111 ((zwr M 110 (M 109 8) v1) 109 8) v2) 112 ((zwr (zwr M 110 (M 109 8) v1) 111 ((zwr M 110 (M 109 8) v1) 109 8) v2) 109 8) v3) 113 ((zwr (zwr (zwr M 110 (M 109 8) v1) 111 ((zwr M 110 (M 109 8) v1) 109 8) v2) 112 ((zwr (zwr M 110 (M 109 8) v1) 111 ((zwr M 110 (M 109 8) v1) 109 8) v2) 109 8) v3) 109 8) v4) 109 8 (zw (((zwr (zwr (zwr (zwr M 110 (M 109 8) v1) 111 ((zwr M 110 (M 109 8) v1) 109 8) v2) 112 ((zwr (zwr M 110 (M 109 8) v1) 111 ((zwr M 110 (M 109 8) v1) 109 8) v2) 109 8) v3) 113 ((zwr (zwr (zwr M 110 (M 109 8) v1) 111 ((zwr M 110 (M 109 8) v1) 109 8) v2) 112 ((zwr (zwr M 110 (M 109 8) v1) 111 ((zwr M 110 (M 109 8) v1) 109 8) v2) 109 8) v3) 109 8) v4) 109 8) + 1))) 109 8) - 1)))) (zwr (zwr (zwr (zwr (zwr M 110 (M 109 8) v1) 111 ((zwr M 110 (M 109 8) v1) 109 8) v2) 112 ((zwr (zwr M 110 (M 109 8) v1) 111 ((zwr M 110 (M 109 8) v1) 109 8) v2) 109 8) v3) 113 ((zwr (zwr (zwr M 110 (M 109 8) v1) 111 ((zwr M 110 (M 109 8) v1) 109 8) v2) 112 ((zwr (zwr M 110 (M 109 8) v1) 111 ((zwr M 110 (M 109 8) v1) 109 8) v2) 109 8) v3) 109 8) v4) 109 8 (zw (((zwr (zwr (zwr (zwr M 110 (M 109 8) v1) 111 ((zwr M 110 (M 109 8) v1) 109 8) v2) 112 ((zwr (zwr M 110 (M 109 8) v1) 111 ((zwr M 110 (M 109 8) v1) 109 8) v2) 109 8) v3) 113 ((zwr (zwr (zwr M 110 (M 109 8) v1) 111 ((zwr M 110 (M 109 8) v1) 109 8) v2) 112 ((zwr (zwr M 110 (M 109 8) v1) 111 ((zwr M 110 (M 109 8) v1) 109 8) v2) 109 8) v3) 109 8) v4) 109 8) + 1))) else none else none else none else none) else (Rt (some (zI (-1))) M) := by
  refine Eq.trans (s_aloadn f_3_0 rfl) ?_
  refine Eq.trans (s_getI f_3_1 g_3_36 (by decide) kn_109) ?_
  refine Eq.trans (s_bipush f_3_4) ?_
  refine Eq.trans (s_icmp (P := (M 109 8) < 23) 11 f_3_6 (by decide) rfl) (ite_cg (fun h1 => ?_) (fun h1 => ?_))
  · refine Eq.trans (s_aloadn f_3_11 rfl) ?_
    refine Eq.trans (s_getR f_3_12 g_3_11 (by decide) kn_109 rf_109_0) ?_
    refine Eq.trans (s_aloadn f_3_15 rfl) ?_
    refine Eq.trans (s_getI f_3_16 g_3_36 (by decide) kn_109) ?_
    refine Eq.trans (s_iloadn f_3_19 rfl) ?_
    refine Eq.trans (s_iast f_3_20 kn_110 ln_110) (gd_cg fun h2 => ?_)
    refine Eq.trans (s_aloadn f_3_21 rfl) ?_
    refine Eq.trans (s_getR f_3_22 g_3_15 (by decide) kn_109 rf_109_1) ?_
    refine Eq.trans (s_aloadn f_3_25 rfl) ?_
    refine Eq.trans (s_getI f_3_26 g_3_36 (by decide) kn_109) ?_
    refine Eq.trans (s_iloadn f_3_29 rfl) ?_
    refine Eq.trans (s_iast f_3_30 kn_111 ln_111) (gd_cg fun h3 => ?_)
    refine Eq.trans (s_aloadn f_3_31 rfl) ?_
    refine Eq.trans (s_getR f_3_32 g_3_18 (by decide) kn_109 rf_109_2) ?_
    refine Eq.trans (s_aloadn f_3_35 rfl) ?_
    refine Eq.trans (s_getI f_3_36 g_3_36 (by decide) kn_109) ?_
    refine Eq.trans (s_iloadn f_3_39 rfl) ?_
    refine Eq.trans (s_iast f_3_40 kn_112 ln_112) (gd_cg fun h4 => ?_)
    refine Eq.trans (s_aloadn f_3_41 rfl) ?_
    refine Eq.trans (s_getR f_3_42 g_3_21 (by decide) kn_109 rf_109_3) ?_
    refine Eq.trans (s_aloadn f_3_45 rfl) ?_
    refine Eq.trans (s_getI f_3_46 g_3_36 (by decide) kn_109) ?_
    refine Eq.trans (s_iload f_3_49 rfl) ?_
    refine Eq.trans (s_iast f_3_51 kn_113 ln_113) (gd_cg fun h5 => ?_)
    refine Eq.trans (s_aloadn f_3_52 rfl) ?_
    refine Eq.trans (s_dup f_3_53 rfl) ?_
    refine Eq.trans (s_getI f_3_54 g_3_36 (by decide) kn_109) ?_
    refine Eq.trans (s_iconst f_3_57) ?_
    refine Eq.trans (s_iadd f_3_58) ?_
    refine Eq.trans (s_putI f_3_59 g_3_36 (by decide) kn_109) ?_
    refine Eq.trans (s_aloadn f_3_62 rfl) ?_
    refine Eq.trans (s_getI f_3_63 g_3_36 (by decide) kn_109) ?_
    refine Eq.trans (s_iconst f_3_66) ?_
    refine Eq.trans (s_isub f_3_67) ?_
    exact s_iret f_3_68 t_3
  · refine Eq.trans (s_iconst f_3_9) ?_
    exact s_iret f_3_10 t_3
theorem en_3 {d : Nat} (v1 v2 v3 v4 : Int) (M : ZM) : E (d + 1) 3 [zR 109, zI v1, zI v2, zI v3, zI v4] M = Q d 3 0 [zR 109, zI v1, zI v2, zI v3, zI v4] [] M := e_in (Nat.le_of_ble_eq_true rfl)
-- DungeonBuilder$Architect.partition(LDungeonBuilder$Architect;II)V
theorem q_4_0 {d : Nat} (v1 v2 : Int) (M : ZM) : Q d 4 0 [zR 109, zI v1, zI v2, zU] [] M = if v1 < 0 then (Rt none M) else (if v1 < 23 then (if 0 ≤ v1 ∧ v1 < 23 then if v2 ≤ 0 then (Cb (E d 5 [zR 109, zI v1] (zwr M 114 v1 (M 109 9))) (fun v h => zrun (zevl d) 4 45 [zR 109, zI v1, zI v2, zI (-1)] (v.toList ++ []) h)) else (Cb (E d 7 [zR 109, zI v1] (zwr M 114 v1 (M 109 9))) (fun v h => zrun (zevl d) 4 30 [zR 109, zI v1, zI v2, zU] (v.toList ++ []) h)) else none) else (Rt none M)) := by
  refine Eq.trans (s_iloadn f_4_0 rfl) ?_
  refine Eq.trans (s_if (P := v1 < 0) 10 f_4_1 (by decide) rfl) (ite_cg (fun h1 => ?_) (fun h1 => ?_))
  · exact s_vret f_4_10 t_4
  · refine Eq.trans (s_iloadn f_4_4 rfl) ?_
    refine Eq.trans (s_bipush f_4_5) ?_
    refine Eq.trans (s_icmp (P := v1 < 23) 11 f_4_7 (by decide) rfl) (ite_cg (fun h2 => ?_) (fun h2 => ?_))
    · refine Eq.trans (s_aloadn f_4_11 rfl) ?_
      refine Eq.trans (s_getR f_4_12 g_4_24 (by decide) kn_109 rf_109_4) ?_
      refine Eq.trans (s_iloadn f_4_15 rfl) ?_
      refine Eq.trans (s_aloadn f_4_16 rfl) ?_
      refine Eq.trans (s_getI f_4_17 g_4_40 (by decide) kn_109) ?_
      refine Eq.trans (s_iast f_4_20 kn_114 ln_114) (gd_cg fun h3 => ?_)
      refine Eq.trans (s_iloadn f_4_21 rfl) ?_
      refine Eq.trans (s_if (P := v2 ≤ 0) 33 f_4_22 (by decide) rfl) (ite_cg (fun h4 => ?_) (fun h4 => ?_))
      · refine Eq.trans (s_iconst f_4_33) ?_
        refine Eq.trans (s_istoren f_4_34 rfl) ?_
        refine Eq.trans (s_iloadn f_4_35 rfl) ?_
        refine Eq.trans (s_iconst f_4_36) ?_
        refine Eq.trans (s_icmp (P := (-1) ≠ (-1)) 48 f_4_37 (by decide) rfl) (Eq.trans (if_neg (by decide)) ?_)
        refine Eq.trans (s_aloadn f_4_40 rfl) ?_
        refine Eq.trans (s_iloadn f_4_41 rfl) ?_
        exact s_call [zR 109, zI v1] [] f_4_42 rfl c_4_75 rfl rfl (Nat.le_of_ble_eq_true rfl) (by show (zkn SH 109 == zown 5) = true; rw [show zkn SH 109 = 0 from kn_109]; rfl)
      · refine Eq.trans (s_aloadn f_4_25 rfl) ?_
        refine Eq.trans (s_iloadn f_4_26 rfl) ?_
        exact s_call [zR 109, zI v1] [] f_4_27 rfl c_4_71 rfl rfl (Nat.le_of_ble_eq_true rfl) (by show (zkn SH 109 == zown 7) = true; rw [show zkn SH 109 = 0 from kn_109]; rfl)
    · exact s_vret f_4_10 t_4
theorem q_4_30 {d : Nat} (v1 v2 s0 : Int) (M : ZM) : Q d 4 30 [zR 109, zI v1, zI v2, zU] [zI s0] M = if s0 ≠ (-1) then (Cb (E d 4 [zR 109, zI s0, zI (zw (v2 - 1))] M) (fun v h => zrun (zevl d) 4 56 [zR 109, zI v1, zI v2, zI s0] (v.toList ++ []) h)) else (Cb (E d 5 [zR 109, zI v1] M) (fun v h => zrun (zevl d) 4 45 [zR 109, zI v1, zI v2, zI s0] (v.toList ++ []) h)) := by
  refine Eq.trans (s_goto 34 f_4_30 (by decide)) ?_
  refine Eq.trans (s_istoren f_4_34 rfl) ?_
  refine Eq.trans (s_iloadn f_4_35 rfl) ?_
  refine Eq.trans (s_iconst f_4_36) ?_
  refine Eq.trans (s_icmp (P := s0 ≠ (-1)) 48 f_4_37 (by decide) rfl) (ite_cg (fun h1 => ?_) (fun h1 => ?_))
  · refine Eq.trans (s_aloadn f_4_48 rfl) ?_
    refine Eq.trans (s_iloadn f_4_49 rfl) ?_
    refine Eq.trans (s_iloadn f_4_50 rfl) ?_
    refine Eq.trans (s_iconst f_4_51) ?_
    refine Eq.trans (s_isub f_4_52) ?_
    exact s_call [zR 109, zI s0, zI (zw (v2 - 1))] [] f_4_53 rfl c_4_58 rfl rfl (Nat.le_of_ble_eq_true rfl) rfl
  · refine Eq.trans (s_aloadn f_4_40 rfl) ?_
    refine Eq.trans (s_iloadn f_4_41 rfl) ?_
    exact s_call [zR 109, zI v1] [] f_4_42 rfl c_4_75 rfl rfl (Nat.le_of_ble_eq_true rfl) (by show (zkn SH 109 == zown 5) = true; rw [show zkn SH 109 = 0 from kn_109]; rfl)
theorem q_4_45 {d : Nat} (v1 v2 v3 : Int) (M : ZM) : Q d 4 45 [zR 109, zI v1, zI v2, zI v3] [] M = Q d 4 71 [zR 109, zI v1, zI v2, zI v3] [] M := by
  refine Eq.trans (s_goto 71 f_4_45 (by decide)) ?_
  rfl
theorem q_4_56 {d : Nat} (v1 v2 v3 : Int) (M : ZM) : Q d 4 56 [zR 109, zI v1, zI v2, zI v3] [] M = Cb (E d 4 [zR 109, zI (zw (v3 + 1)), zI (zw (v2 - 1))] M) (fun v h => zrun (zevl d) 4 66 [zR 109, zI v1, zI v2, zI v3] (v.toList ++ []) h) := by
  refine Eq.trans (s_aloadn f_4_56 rfl) ?_
  refine Eq.trans (s_iloadn f_4_57 rfl) ?_
  refine Eq.trans (s_iconst f_4_58) ?_
  refine Eq.trans (s_iadd f_4_59) ?_
  refine Eq.trans (s_iloadn f_4_60 rfl) ?_
  refine Eq.trans (s_iconst f_4_61) ?_
  refine Eq.trans (s_isub f_4_62) ?_
  exact s_call [zR 109, zI (zw (v3 + 1)), zI (zw (v2 - 1))] [] f_4_63 rfl c_4_58 rfl rfl (Nat.le_of_ble_eq_true rfl) rfl
theorem q_4_66 {d : Nat} (v1 v2 v3 : Int) (M : ZM) : Q d 4 66 [zR 109, zI v1, zI v2, zI v3] [] M = Cb (E d 6 [zR 109, zI v3] M) (fun v h => zrun (zevl d) 4 71 [zR 109, zI v1, zI v2, zI v3] (v.toList ++ []) h) := by
  refine Eq.trans (s_aloadn f_4_66 rfl) ?_
  refine Eq.trans (s_iloadn f_4_67 rfl) ?_
  exact s_call [zR 109, zI v3] [] f_4_68 rfl c_4_79 rfl rfl (Nat.le_of_ble_eq_true rfl) (by show (zkn SH 109 == zown 6) = true; rw [show zkn SH 109 = 0 from kn_109]; rfl)
theorem q_4_71 {d : Nat} (v1 v2 v3 : Int) (M : ZM) : Q d 4 71 [zR 109, zI v1, zI v2, zI v3] [] M = if 0 ≤ v1 ∧ v1 < 23 then Rt none (zwr M 115 v1 (M 109 9)) else none := by
  refine Eq.trans (s_aloadn f_4_71 rfl) ?_
  refine Eq.trans (s_getR f_4_72 g_4_27 (by decide) kn_109 rf_109_5) ?_
  refine Eq.trans (s_iloadn f_4_75 rfl) ?_
  refine Eq.trans (s_aloadn f_4_76 rfl) ?_
  refine Eq.trans (s_getI f_4_77 g_4_40 (by decide) kn_109) ?_
  refine Eq.trans (s_iast f_4_80 kn_115 ln_115) (gd_cg fun h1 => ?_)
  exact s_vret f_4_81 t_4
theorem en_4 {d : Nat} (v1 v2 : Int) (M : ZM) : E (d + 1) 4 [zR 109, zI v1, zI v2] M = Q d 4 0 [zR 109, zI v1, zI v2, zU] [] M := e_in (Nat.le_of_ble_eq_true rfl)
-- DungeonBuilder$Architect.noteUncut(I)V
theorem q_5_0 {d : Nat} (v1 : Int) (M : ZM) : Q d 5 0 [zR 109, zI v1] [] M = if 12 ≤ (M 109 9) then (Rt none M) else (if 0 ≤ (M 109 9) ∧ (M 109 9) < 12 then Rt none (zwr (zwr M 116 (M 109 9) v1) 109 9 (zw (((zwr M 116 (M 109 9) v1) 109 9) + 1))) else none) := by
  refine Eq.trans (s_aloadn f_5_0 rfl) ?_
  refine Eq.trans (s_getI f_5_1 g_5_40 (by decide) kn_109) ?_
  refine Eq.trans (s_bipush f_5_4) ?_
  refine Eq.trans (s_icmp (P := 12 ≤ (M 109 9)) 29 f_5_6 (by decide) rfl) (ite_cg (fun h1 => ?_) (fun h1 => ?_))
  · exact s_vret f_5_29 t_5
  · refine Eq.trans (s_aloadn f_5_9 rfl) ?_
    refine Eq.trans (s_getR f_5_10 g_5_30 (by decide) kn_109 rf_109_6) ?_
    refine Eq.trans (s_aloadn f_5_13 rfl) ?_
    refine Eq.trans (s_getI f_5_14 g_5_40 (by decide) kn_109) ?_
    refine Eq.trans (s_iloadn f_5_17 rfl) ?_
    refine Eq.trans (s_iast f_5_18 kn_116 ln_116) (gd_cg fun h2 => ?_)
    refine Eq.trans (s_aloadn f_5_19 rfl) ?_
    refine Eq.trans (s_dup f_5_20 rfl) ?_
    refine Eq.trans (s_getI f_5_21 g_5_40 (by decide) kn_109) ?_
    refine Eq.trans (s_iconst f_5_24) ?_
    refine Eq.trans (s_iadd f_5_25) ?_
    refine Eq.trans (s_putI f_5_26 g_5_40 (by decide) kn_109) ?_
    exact s_vret f_5_29 t_5
theorem en_5 {d : Nat} (v1 : Int) (M : ZM) : E (d + 1) 5 [zR 109, zI v1] M = Q d 5 0 [zR 109, zI v1] [] M := e_in (Nat.le_of_ble_eq_true rfl)
-- DungeonBuilder$Architect.noteCut(I)V
theorem q_6_0 {d : Nat} (v1 : Int) (M : ZM) : Q d 6 0 [zR 109, zI v1] [] M = if 12 ≤ (M 109 10) then (Rt none M) else (if 0 ≤ (M 109 10) ∧ (M 109 10) < 12 then Rt none (zwr (zwr M 117 (M 109 10) v1) 109 10 (zw (((zwr M 117 (M 109 10) v1) 109 10) + 1))) else none) := by
  refine Eq.trans (s_aloadn f_6_0 rfl) ?_
  refine Eq.trans (s_getI f_6_1 g_6_43 (by decide) kn_109) ?_
  refine Eq.trans (s_bipush f_6_4) ?_
  refine Eq.trans (s_icmp (P := 12 ≤ (M 109 10)) 29 f_6_6 (by decide) rfl) (ite_cg (fun h1 => ?_) (fun h1 => ?_))
  · exact s_vret f_6_29 t_6
  · refine Eq.trans (s_aloadn f_6_9 rfl) ?_
    refine Eq.trans (s_getR f_6_10 g_6_33 (by decide) kn_109 rf_109_7) ?_
    refine Eq.trans (s_aloadn f_6_13 rfl) ?_
    refine Eq.trans (s_getI f_6_14 g_6_43 (by decide) kn_109) ?_
    refine Eq.trans (s_iloadn f_6_17 rfl) ?_
    refine Eq.trans (s_iast f_6_18 kn_117 ln_117) (gd_cg fun h2 => ?_)
    refine Eq.trans (s_aloadn f_6_19 rfl) ?_
    refine Eq.trans (s_dup f_6_20 rfl) ?_
    refine Eq.trans (s_getI f_6_21 g_6_43 (by decide) kn_109) ?_
    refine Eq.trans (s_iconst f_6_24) ?_
    refine Eq.trans (s_iadd f_6_25) ?_
    refine Eq.trans (s_putI f_6_26 g_6_43 (by decide) kn_109) ?_
    exact s_vret f_6_29 t_6
theorem en_6 {d : Nat} (v1 : Int) (M : ZM) : E (d + 1) 6 [zR 109, zI v1] M = Q d 6 0 [zR 109, zI v1] [] M := e_in (Nat.le_of_ble_eq_true rfl)
-- DungeonBuilder$Architect.cut(I)I
theorem q_7_0 {d : Nat} (v1 : Int) (M : ZM) : Q d 7 0 [zR 109, zI v1, zU, zU, zU, zU, zU, zU, zU, zU] [] M = if 0 ≤ v1 ∧ v1 < 23 then if 0 ≤ v1 ∧ v1 < 23 then if 0 ≤ v1 ∧ v1 < 23 then if 0 ≤ v1 ∧ v1 < 23 then if 10 ≤ (M 112 v1) then (Q d 7 44 [zR 109, zI v1, zI (M 110 v1), zI (M 111 v1), zI (M 112 v1), zI (M 113 v1), zU, zU, zU, zU] [] M) else (if (M 113 v1) < 10 then (Rt (some (zI (-1))) M) else (Q d 7 44 [zR 109, zI v1, zI (M 110 v1), zI (M 111 v1), zI (M 112 v1), zI (M 113 v1), zU, zU, zU, zU] [] M)) else none else none else none else none := by
  refine Eq.trans (s_aloadn f_7_0 rfl) ?_
  refine Eq.trans (s_getR f_7_1 g_7_11 (by decide) kn_109 rf_109_0) ?_
  refine Eq.trans (s_iloadn f_7_4 rfl) ?_
  refine Eq.trans (s_iald f_7_5 kn_110 ln_110) (gd_cg fun h1 => ?_)
  refine Eq.trans (s_istoren f_7_6 rfl) ?_
  refine Eq.trans (s_aloadn f_7_7 rfl) ?_
  refine Eq.trans (s_getR f_7_8 g_7_15 (by decide) kn_109 rf_109_1) ?_
  refine Eq.trans (s_iloadn f_7_11 rfl) ?_
  refine Eq.trans (s_iald f_7_12 kn_111 ln_111) (gd_cg fun h2 => ?_)
  refine Eq.trans (s_istoren f_7_13 rfl) ?_
  refine Eq.trans (s_aloadn f_7_14 rfl) ?_
  refine Eq.trans (s_getR f_7_15 g_7_18 (by decide) kn_109 rf_109_2) ?_
  refine Eq.trans (s_iloadn f_7_18 rfl) ?_
  refine Eq.trans (s_iald f_7_19 kn_112 ln_112) (gd_cg fun h3 => ?_)
  refine Eq.trans (s_istore f_7_20 rfl) ?_
  refine Eq.trans (s_aloadn f_7_22 rfl) ?_
  refine Eq.trans (s_getR f_7_23 g_7_21 (by decide) kn_109 rf_109_3) ?_
  refine Eq.trans (s_iloadn f_7_26 rfl) ?_
  refine Eq.trans (s_iald f_7_27 kn_113 ln_113) (gd_cg fun h4 => ?_)
  refine Eq.trans (s_istore f_7_28 rfl) ?_
  refine Eq.trans (s_iload f_7_30 rfl) ?_
  refine Eq.trans (s_bipush f_7_32) ?_
  refine Eq.trans (s_icmp (P := 10 ≤ (M 112 v1)) 44 f_7_34 (by decide) rfl) (ite_cg (fun h5 => ?_) (fun h5 => ?_))
  · rfl
  · refine Eq.trans (s_iload f_7_37 rfl) ?_
    refine Eq.trans (s_bipush f_7_39) ?_
    refine Eq.trans (s_icmp (P := (M 113 v1) < 10) 55 f_7_41 (by decide) rfl) (ite_cg (fun h6 => ?_) (fun h6 => ?_))
    · refine Eq.trans (s_iconst f_7_55) ?_
      exact s_iret f_7_56 t_7
    · rfl
theorem q_7_44 {d : Nat} (v1 v2 v3 v4 v5 : Int) (M : ZM) : Q d 7 44 [zR 109, zI v1, zI v2, zI v3, zI v4, zI v5, zU, zU, zU, zU] [] M = if (zw ((M 109 8) + 2)) ≤ 23 then (if v4 < 10 then (Q d 7 75 [zR 109, zI v1, zI v2, zI v3, zI v4, zI v5, zU, zU, zU, zU] [] M) else (if v5 < 10 then (Q d 7 75 [zR 109, zI v1, zI v2, zI v3, zI v4, zI v5, zU, zU, zU, zU] [] M) else (Q d 7 76 [zR 109, zI v1, zI v2, zI v3, zI v4, zI v5, zU, zU, zU, zU] [zI 1] M))) else (Rt (some (zI (-1))) M) := by
  refine Eq.trans (s_aloadn f_7_44 rfl) ?_
  refine Eq.trans (s_getI f_7_45 g_7_36 (by decide) kn_109) ?_
  refine Eq.trans (s_iconst f_7_48) ?_
  refine Eq.trans (s_iadd f_7_49) ?_
  refine Eq.trans (s_bipush f_7_50) ?_
  refine Eq.trans (s_icmp (P := (zw ((M 109 8) + 2)) ≤ 23) 57 f_7_52 (by decide) rfl) (ite_cg (fun h1 => ?_) (fun h1 => ?_))
  · refine Eq.trans (s_iload f_7_57 rfl) ?_
    refine Eq.trans (s_bipush f_7_59) ?_
    refine Eq.trans (s_icmp (P := v4 < 10) 75 f_7_61 (by decide) rfl) (ite_cg (fun h2 => ?_) (fun h2 => ?_))
    · rfl
    · refine Eq.trans (s_iload f_7_64 rfl) ?_
      refine Eq.trans (s_bipush f_7_66) ?_
      refine Eq.trans (s_icmp (P := v5 < 10) 75 f_7_68 (by decide) rfl) (ite_cg (fun h3 => ?_) (fun h3 => ?_))
      · rfl
      · refine Eq.trans (s_iconst f_7_71) ?_
        refine Eq.trans (s_goto 76 f_7_72 (by decide)) ?_
        rfl
  · refine Eq.trans (s_iconst f_7_55) ?_
    exact s_iret f_7_56 t_7
theorem q_7_75 {d : Nat} (v1 v2 v3 v4 v5 : Int) (M : ZM) : Q d 7 75 [zR 109, zI v1, zI v2, zI v3, zI v4, zI v5, zU, zU, zU, zU] [] M = Q d 7 76 [zR 109, zI v1, zI v2, zI v3, zI v4, zI v5, zU, zU, zU, zU] [zI 0] M := by
  refine Eq.trans (s_iconst f_7_75) ?_
  rfl
theorem q_7_76 {d : Nat} (v1 v2 v3 v4 v5 s0 : Int) (M : ZM) : Q d 7 76 [zR 109, zI v1, zI v2, zI v3, zI v4, zI v5, zU, zU, zU, zU] [zI s0] M = if s0 = 0 then (if v4 < 10 then (Cb (E d 2 [zR 109, zI (zw ((zw (v5 - 10)) + 1))] M) (fun v h => zrun (zevl d) 7 135 [zR 109, zI v1, zI v2, zI v3, zI v4, zI v5, zI s0, zI 0, zU, zU] (v.toList ++ [zI 5]) h)) else (Cb (E d 2 [zR 109, zI (zw ((zw (v4 - 10)) + 1))] M) (fun v h => zrun (zevl d) 7 135 [zR 109, zI v1, zI v2, zI v3, zI v4, zI v5, zI s0, zI 1, zU, zU] (v.toList ++ [zI 5]) h))) else (Cb (E d 2 [zR 109, zI 2] M) (fun v h => zrun (zevl d) 7 88 [zR 109, zI v1, zI v2, zI v3, zI v4, zI v5, zI s0, zU, zU, zU] (v.toList ++ []) h)) := by
  refine Eq.trans (s_istore f_7_76 rfl) ?_
  refine Eq.trans (s_iload f_7_78 rfl) ?_
  refine Eq.trans (s_if (P := s0 = 0) 99 f_7_80 (by decide) rfl) (ite_cg (fun h1 => ?_) (fun h1 => ?_))
  · refine Eq.trans (s_iload f_7_99 rfl) ?_
    refine Eq.trans (s_bipush f_7_101) ?_
    refine Eq.trans (s_icmp (P := v4 < 10) 110 f_7_103 (by decide) rfl) (ite_cg (fun h2 => ?_) (fun h2 => ?_))
    · refine Eq.trans (s_iconst f_7_110) ?_
      refine Eq.trans (s_istore f_7_111 rfl) ?_
      refine Eq.trans (s_iconst f_7_113) ?_
      refine Eq.trans (s_aloadn f_7_114 rfl) ?_
      refine Eq.trans (s_iload f_7_115 rfl) ?_
      refine Eq.trans (s_if (P := 0 = 0) 125 f_7_117 (by decide) rfl) (Eq.trans (if_pos (by decide)) ?_)
      refine Eq.trans (s_iload f_7_125 rfl) ?_
      refine Eq.trans (s_bipush f_7_127) ?_
      refine Eq.trans (s_isub f_7_129) ?_
      refine Eq.trans (s_iconst f_7_130) ?_
      refine Eq.trans (s_iadd f_7_131) ?_
      exact s_call [zR 109, zI (zw ((zw (v5 - 10)) + 1))] [zI 5] f_7_132 rfl c_7_82 rfl rfl (Nat.le_of_ble_eq_true rfl) (by show (zkn SH 109 == zown 2) = true; rw [show zkn SH 109 = 0 from kn_109]; rfl)
    · refine Eq.trans (s_iconst f_7_106) ?_
      refine Eq.trans (s_goto 111 f_7_107 (by decide)) ?_
      refine Eq.trans (s_istore f_7_111 rfl) ?_
      refine Eq.trans (s_iconst f_7_113) ?_
      refine Eq.trans (s_aloadn f_7_114 rfl) ?_
      refine Eq.trans (s_iload f_7_115 rfl) ?_
      refine Eq.trans (s_if (P := 1 = 0) 125 f_7_117 (by decide) rfl) (Eq.trans (if_neg (by decide)) ?_)
      refine Eq.trans (s_iload f_7_120 rfl) ?_
      refine Eq.trans (s_goto 127 f_7_122 (by decide)) ?_
      refine Eq.trans (s_bipush f_7_127) ?_
      refine Eq.trans (s_isub f_7_129) ?_
      refine Eq.trans (s_iconst f_7_130) ?_
      refine Eq.trans (s_iadd f_7_131) ?_
      exact s_call [zR 109, zI (zw ((zw (v4 - 10)) + 1))] [zI 5] f_7_132 rfl c_7_82 rfl rfl (Nat.le_of_ble_eq_true rfl) (by show (zkn SH 109 == zown 2) = true; rw [show zkn SH 109 = 0 from kn_109]; rfl)
  · refine Eq.trans (s_aloadn f_7_83 rfl) ?_
    refine Eq.trans (s_iconst f_7_84) ?_
    exact s_call [zR 109, zI 2] [] f_7_85 rfl c_7_82 rfl rfl (Nat.le_of_ble_eq_true rfl) (by show (zkn SH 109 == zown 2) = true; rw [show zkn SH 109 = 0 from kn_109]; rfl)
theorem q_7_88 {d : Nat} (v1 v2 v3 v4 v5 v6 s0 : Int) (M : ZM) : Q d 7 88 [zR 109, zI v1, zI v2, zI v3, zI v4, zI v5, zI v6, zU, zU, zU] [zI s0] M = if s0 ≠ 0 then (Cb (E d 2 [zR 109, zI (zw ((zw (v5 - 10)) + 1))] M) (fun v h => zrun (zevl d) 7 135 [zR 109, zI v1, zI v2, zI v3, zI v4, zI v5, zI v6, zI 0, zU, zU] (v.toList ++ [zI 5]) h)) else (Cb (E d 2 [zR 109, zI (zw ((zw (v4 - 10)) + 1))] M) (fun v h => zrun (zevl d) 7 135 [zR 109, zI v1, zI v2, zI v3, zI v4, zI v5, zI v6, zI 1, zU, zU] (v.toList ++ [zI 5]) h)) := by
  refine Eq.trans (s_if (P := s0 ≠ 0) 95 f_7_88 (by decide) rfl) (ite_cg (fun h1 => ?_) (fun h1 => ?_))
  · refine Eq.trans (s_iconst f_7_95) ?_
    refine Eq.trans (s_goto 111 f_7_96 (by decide)) ?_
    refine Eq.trans (s_istore f_7_111 rfl) ?_
    refine Eq.trans (s_iconst f_7_113) ?_
    refine Eq.trans (s_aloadn f_7_114 rfl) ?_
    refine Eq.trans (s_iload f_7_115 rfl) ?_
    refine Eq.trans (s_if (P := 0 = 0) 125 f_7_117 (by decide) rfl) (Eq.trans (if_pos (by decide)) ?_)
    refine Eq.trans (s_iload f_7_125 rfl) ?_
    refine Eq.trans (s_bipush f_7_127) ?_
    refine Eq.trans (s_isub f_7_129) ?_
    refine Eq.trans (s_iconst f_7_130) ?_
    refine Eq.trans (s_iadd f_7_131) ?_
    exact s_call [zR 109, zI (zw ((zw (v5 - 10)) + 1))] [zI 5] f_7_132 rfl c_7_82 rfl rfl (Nat.le_of_ble_eq_true rfl) (by show (zkn SH 109 == zown 2) = true; rw [show zkn SH 109 = 0 from kn_109]; rfl)
  · refine Eq.trans (s_iconst f_7_91) ?_
    refine Eq.trans (s_goto 111 f_7_92 (by decide)) ?_
    refine Eq.trans (s_istore f_7_111 rfl) ?_
    refine Eq.trans (s_iconst f_7_113) ?_
    refine Eq.trans (s_aloadn f_7_114 rfl) ?_
    refine Eq.trans (s_iload f_7_115 rfl) ?_
    refine Eq.trans (s_if (P := 1 = 0) 125 f_7_117 (by decide) rfl) (Eq.trans (if_neg (by decide)) ?_)
    refine Eq.trans (s_iload f_7_120 rfl) ?_
    refine Eq.trans (s_goto 127 f_7_122 (by decide)) ?_
    refine Eq.trans (s_bipush f_7_127) ?_
    refine Eq.trans (s_isub f_7_129) ?_
    refine Eq.trans (s_iconst f_7_130) ?_
    refine Eq.trans (s_iadd f_7_131) ?_
    exact s_call [zR 109, zI (zw ((zw (v4 - 10)) + 1))] [zI 5] f_7_132 rfl c_7_82 rfl rfl (Nat.le_of_ble_eq_true rfl) (by show (zkn SH 109 == zown 2) = true; rw [show zkn SH 109 = 0 from kn_109]; rfl)
theorem q_7_135 {d : Nat} (v1 v2 v3 v4 v5 v6 v7 s0 s1 : Int) (M : ZM) : Q d 7 135 [zR 109, zI v1, zI v2, zI v3, zI v4, zI v5, zI v6, zI v7, zU, zU] [zI s1, zI s0] M = if v7 = 0 then (Cb (E d 3 [zR 109, zI v2, zI v3, zI v4, zI (zw (s0 + s1))] M) (fun v h => zrun (zevl d) 7 166 [zR 109, zI v1, zI v2, zI v3, zI v4, zI v5, zI v6, zI v7, zI (zw (s0 + s1)), zU] (v.toList ++ []) h)) else (Cb (E d 3 [zR 109, zI v2, zI v3, zI (zw (s0 + s1)), zI v5] M) (fun v h => zrun (zevl d) 7 153 [zR 109, zI v1, zI v2, zI v3, zI v4, zI v5, zI v6, zI v7, zI (zw (s0 + s1)), zU] (v.toList ++ []) h)) := by
  refine Eq.trans (s_iadd f_7_135) ?_
  refine Eq.trans (s_istore f_7_136 rfl) ?_
  refine Eq.trans (s_iload f_7_138 rfl) ?_
  refine Eq.trans (s_if (P := v7 = 0) 156 f_7_140 (by decide) rfl) (ite_cg (fun h1 => ?_) (fun h1 => ?_))
  · refine Eq.trans (s_aloadn f_7_156 rfl) ?_
    refine Eq.trans (s_iloadn f_7_157 rfl) ?_
    refine Eq.trans (s_iloadn f_7_158 rfl) ?_
    refine Eq.trans (s_iload f_7_159 rfl) ?_
    refine Eq.trans (s_iload f_7_161 rfl) ?_
    exact s_call [zR 109, zI v2, zI v3, zI v4, zI (zw (s0 + s1))] [] f_7_163 rfl c_7_54 rfl rfl (Nat.le_of_ble_eq_true rfl) (by show (zkn SH 109 == zown 3) = true; rw [show zkn SH 109 = 0 from kn_109]; rfl)
  · refine Eq.trans (s_aloadn f_7_143 rfl) ?_
    refine Eq.trans (s_iloadn f_7_144 rfl) ?_
    refine Eq.trans (s_iloadn f_7_145 rfl) ?_
    refine Eq.trans (s_iload f_7_146 rfl) ?_
    refine Eq.trans (s_iload f_7_148 rfl) ?_
    exact s_call [zR 109, zI v2, zI v3, zI (zw (s0 + s1)), zI v5] [] f_7_150 rfl c_7_54 rfl rfl (Nat.le_of_ble_eq_true rfl) (by show (zkn SH 109 == zown 3) = true; rw [show zkn SH 109 = 0 from kn_109]; rfl)
theorem q_7_153 {d : Nat} (v1 v2 v3 v4 v5 v6 v7 v8 s0 : Int) (M : ZM) : Q d 7 153 [zR 109, zI v1, zI v2, zI v3, zI v4, zI v5, zI v6, zI v7, zI v8, zU] [zI s0] M = Q d 7 166 [zR 109, zI v1, zI v2, zI v3, zI v4, zI v5, zI v6, zI v7, zI v8, zU] [zI s0] M := by
  refine Eq.trans (s_goto 166 f_7_153 (by decide)) ?_
  rfl
theorem q_7_166 {d : Nat} (v1 v2 v3 v4 v5 v6 v7 v8 s0 : Int) (M : ZM) : Q d 7 166 [zR 109, zI v1, zI v2, zI v3, zI v4, zI v5, zI v6, zI v7, zI v8, zU] [zI s0] M = if v7 = 0 then (Cb (E d 3 [zR 109, zI v2, zI (zw (v3 + v8)), zI v4, zI (zw (v5 - v8))] M) (fun v h => zrun (zevl d) 7 209 [zR 109, zI v1, zI v2, zI v3, zI v4, zI v5, zI v6, zI v7, zI v8, zI s0] (v.toList ++ []) h)) else (Cb (E d 3 [zR 109, zI (zw (v2 + v8)), zI v3, zI (zw (v4 - v8)), zI v5] M) (fun v h => zrun (zevl d) 7 189 [zR 109, zI v1, zI v2, zI v3, zI v4, zI v5, zI v6, zI v7, zI v8, zI s0] (v.toList ++ []) h)) := by
  refine Eq.trans (s_istore f_7_166 rfl) ?_
  refine Eq.trans (s_iload f_7_168 rfl) ?_
  refine Eq.trans (s_if (P := v7 = 0) 193 f_7_170 (by decide) rfl) (ite_cg (fun h1 => ?_) (fun h1 => ?_))
  · refine Eq.trans (s_aloadn f_7_193 rfl) ?_
    refine Eq.trans (s_iloadn f_7_194 rfl) ?_
    refine Eq.trans (s_iloadn f_7_195 rfl) ?_
    refine Eq.trans (s_iload f_7_196 rfl) ?_
    refine Eq.trans (s_iadd f_7_198) ?_
    refine Eq.trans (s_iload f_7_199 rfl) ?_
    refine Eq.trans (s_iload f_7_201 rfl) ?_
    refine Eq.trans (s_iload f_7_203 rfl) ?_
    refine Eq.trans (s_isub f_7_205) ?_
    exact s_call [zR 109, zI v2, zI (zw (v3 + v8)), zI v4, zI (zw (v5 - v8))] [] f_7_206 rfl c_7_54 rfl rfl (Nat.le_of_ble_eq_true rfl) (by show (zkn SH 109 == zown 3) = true; rw [show zkn SH 109 = 0 from kn_109]; rfl)
  · refine Eq.trans (s_aloadn f_7_173 rfl) ?_
    refine Eq.trans (s_iloadn f_7_174 rfl) ?_
    refine Eq.trans (s_iload f_7_175 rfl) ?_
    refine Eq.trans (s_iadd f_7_177) ?_
    refine Eq.trans (s_iloadn f_7_178 rfl) ?_
    refine Eq.trans (s_iload f_7_179 rfl) ?_
    refine Eq.trans (s_iload f_7_181 rfl) ?_
    refine Eq.trans (s_isub f_7_183) ?_
    refine Eq.trans (s_iload f_7_184 rfl) ?_
    exact s_call [zR 109, zI (zw (v2 + v8)), zI v3, zI (zw (v4 - v8)), zI v5] [] f_7_186 rfl c_7_54 rfl rfl (Nat.le_of_ble_eq_true rfl) (by show (zkn SH 109 == zown 3) = true; rw [show zkn SH 109 = 0 from kn_109]; rfl)
theorem q_7_189 {d : Nat} (v1 v2 v3 v4 v5 v6 v7 v8 v9 s0 : Int) (M : ZM) : Q d 7 189 [zR 109, zI v1, zI v2, zI v3, zI v4, zI v5, zI v6, zI v7, zI v8, zI v9] [zI s0] M = Rt (some (zI v9)) M := by
  refine Eq.trans (s_pop f_7_189 rfl) ?_
  refine Eq.trans (s_goto 210 f_7_190 (by decide)) ?_
  refine Eq.trans (s_iload f_7_210 rfl) ?_
  exact s_iret f_7_212 t_7
theorem q_7_209 {d : Nat} (v1 v2 v3 v4 v5 v6 v7 v8 v9 s0 : Int) (M : ZM) : Q d 7 209 [zR 109, zI v1, zI v2, zI v3, zI v4, zI v5, zI v6, zI v7, zI v8, zI v9] [zI s0] M = Rt (some (zI v9)) M := by
  refine Eq.trans (s_pop f_7_209 rfl) ?_
  refine Eq.trans (s_iload f_7_210 rfl) ?_
  exact s_iret f_7_212 t_7
theorem en_7 {d : Nat} (v1 : Int) (M : ZM) : E (d + 1) 7 [zR 109, zI v1] M = Q d 7 0 [zR 109, zI v1, zU, zU, zU, zU, zU, zU, zU, zU] [] M := e_in (Nat.le_of_ble_eq_true rfl)
-- DungeonBuilder$Architect.drawRoom(LDungeonBuilder$Dungeon;I)V
theorem q_8_0 {d : Nat} (v2 : Int) (M : ZM) : Q d 8 0 [zR 109, zR 1, zI v2, zU, zU, zU, zU] [] M = if 0 ≤ v2 ∧ v2 < 23 then Cb (E d 2 [zR 109, zI (zw ((M 112 v2) - 4))] M) (fun v h => zrun (zevl d) 8 15 [zR 109, zR 1, zI v2, zU, zU, zU, zU] (v.toList ++ [zI 3, zI 12]) h) else none := by
  refine Eq.trans (s_bipush f_8_0) ?_
  refine Eq.trans (s_iconst f_8_2) ?_
  refine Eq.trans (s_aloadn f_8_3 rfl) ?_
  refine Eq.trans (s_aloadn f_8_4 rfl) ?_
  refine Eq.trans (s_getR f_8_5 g_8_18 (by decide) kn_109 rf_109_2) ?_
  refine Eq.trans (s_iloadn f_8_8 rfl) ?_
  refine Eq.trans (s_iald f_8_9 kn_112 ln_112) (gd_cg fun h1 => ?_)
  refine Eq.trans (s_iconst f_8_10) ?_
  refine Eq.trans (s_isub f_8_11) ?_
  exact s_call [zR 109, zI (zw ((M 112 v2) - 4))] [zI 3, zI 12] f_8_12 rfl c_8_82 rfl rfl (Nat.le_of_ble_eq_true rfl) (by show (zkn SH 109 == zown 2) = true; rw [show zkn SH 109 = 0 from kn_109]; rfl)
theorem q_8_15 {d : Nat} (v2 s0 s1 s2 : Int) (M : ZM) : Q d 8 15 [zR 109, zR 1, zI v2, zU, zU, zU, zU] [zI s2, zI s1, zI s0] M = if 0 ≤ v2 ∧ v2 < 23 then Cb (E d 2 [zR 109, zI (zw ((M 113 v2) - 4))] M) (fun v h => zrun (zevl d) 8 35 [zR 109, zR 1, zI v2, zI (if (zw (s1 + s2)) < s0 then (zw (s1 + s2)) else s0), zU, zU, zU] (v.toList ++ [zI 3, zI 12]) h) else none := by
  refine Eq.trans (s_iadd f_8_15) ?_
  refine Eq.trans (s_min f_8_16 m_8_85 (Nat.le_of_ble_eq_true rfl)) ?_
  refine Eq.trans (s_istoren f_8_19 rfl) ?_
  refine Eq.trans (s_bipush f_8_20) ?_
  refine Eq.trans (s_iconst f_8_22) ?_
  refine Eq.trans (s_aloadn f_8_23 rfl) ?_
  refine Eq.trans (s_aloadn f_8_24 rfl) ?_
  refine Eq.trans (s_getR f_8_25 g_8_21 (by decide) kn_109 rf_109_3) ?_
  refine Eq.trans (s_iloadn f_8_28 rfl) ?_
  refine Eq.trans (s_iald f_8_29 kn_113 ln_113) (gd_cg fun h1 => ?_)
  refine Eq.trans (s_iconst f_8_30) ?_
  refine Eq.trans (s_isub f_8_31) ?_
  exact s_call [zR 109, zI (zw ((M 113 v2) - 4))] [zI 3, zI 12] f_8_32 rfl c_8_82 rfl rfl (Nat.le_of_ble_eq_true rfl) (by show (zkn SH 109 == zown 2) = true; rw [show zkn SH 109 = 0 from kn_109]; rfl)
theorem q_8_35 {d : Nat} (v2 v3 s0 s1 s2 : Int) (M : ZM) : Q d 8 35 [zR 109, zR 1, zI v2, zI v3, zU, zU, zU] [zI s2, zI s1, zI s0] M = if 0 ≤ v2 ∧ v2 < 23 then if 0 ≤ v2 ∧ v2 < 23 then Cb (E d 2 [zR 109, zI (zw ((zw ((M 112 v2) - v3)) - 1))] M) (fun v h => zrun (zevl d) 8 63 [zR 109, zR 1, zI v2, zI v3, zI (if (zw (s1 + s2)) < s0 then (zw (s1 + s2)) else s0), zU, zU] (v.toList ++ [zI (zw ((M 110 v2) + 1))]) h) else none else none := by
  refine Eq.trans (s_iadd f_8_35) ?_
  refine Eq.trans (s_min f_8_36 m_8_85 (Nat.le_of_ble_eq_true rfl)) ?_
  refine Eq.trans (s_istore f_8_39 rfl) ?_
  refine Eq.trans (s_aloadn f_8_41 rfl) ?_
  refine Eq.trans (s_getR f_8_42 g_8_11 (by decide) kn_109 rf_109_0) ?_
  refine Eq.trans (s_iloadn f_8_45 rfl) ?_
  refine Eq.trans (s_iald f_8_46 kn_110 ln_110) (gd_cg fun h1 => ?_)
  refine Eq.trans (s_iconst f_8_47) ?_
  refine Eq.trans (s_iadd f_8_48) ?_
  refine Eq.trans (s_aloadn f_8_49 rfl) ?_
  refine Eq.trans (s_aloadn f_8_50 rfl) ?_
  refine Eq.trans (s_getR f_8_51 g_8_18 (by decide) kn_109 rf_109_2) ?_
  refine Eq.trans (s_iloadn f_8_54 rfl) ?_
  refine Eq.trans (s_iald f_8_55 kn_112 ln_112) (gd_cg fun h2 => ?_)
  refine Eq.trans (s_iloadn f_8_56 rfl) ?_
  refine Eq.trans (s_isub f_8_57) ?_
  refine Eq.trans (s_iconst f_8_58) ?_
  refine Eq.trans (s_isub f_8_59) ?_
  exact s_call [zR 109, zI (zw ((zw ((M 112 v2) - v3)) - 1))] [zI (zw ((M 110 v2) + 1))] f_8_60 rfl c_8_82 rfl rfl (Nat.le_of_ble_eq_true rfl) (by show (zkn SH 109 == zown 2) = true; rw [show zkn SH 109 = 0 from kn_109]; rfl)
theorem q_8_63 {d : Nat} (v2 v3 v4 s0 s1 : Int) (M : ZM) : Q d 8 63 [zR 109, zR 1, zI v2, zI v3, zI v4, zU, zU] [zI s1, zI s0] M = if 0 ≤ v2 ∧ v2 < 23 then if 0 ≤ v2 ∧ v2 < 23 then Cb (E d 2 [zR 109, zI (zw ((zw ((M 113 v2) - v4)) - 1))] M) (fun v h => zrun (zevl d) 8 89 [zR 109, zR 1, zI v2, zI v3, zI v4, zI (zw (s0 + s1)), zU] (v.toList ++ [zI (zw ((M 111 v2) + 1))]) h) else none else none := by
  refine Eq.trans (s_iadd f_8_63) ?_
  refine Eq.trans (s_istore f_8_64 rfl) ?_
  refine Eq.trans (s_aloadn f_8_66 rfl) ?_
  refine Eq.trans (s_getR f_8_67 g_8_15 (by decide) kn_109 rf_109_1) ?_
  refine Eq.trans (s_iloadn f_8_70 rfl) ?_
  refine Eq.trans (s_iald f_8_71 kn_111 ln_111) (gd_cg fun h1 => ?_)
  refine Eq.trans (s_iconst f_8_72) ?_
  refine Eq.trans (s_iadd f_8_73) ?_
  refine Eq.trans (s_aloadn f_8_74 rfl) ?_
  refine Eq.trans (s_aloadn f_8_75 rfl) ?_
  refine Eq.trans (s_getR f_8_76 g_8_21 (by decide) kn_109 rf_109_3) ?_
  refine Eq.trans (s_iloadn f_8_79 rfl) ?_
  refine Eq.trans (s_iald f_8_80 kn_113 ln_113) (gd_cg fun h2 => ?_)
  refine Eq.trans (s_iload f_8_81 rfl) ?_
  refine Eq.trans (s_isub f_8_83) ?_
  refine Eq.trans (s_iconst f_8_84) ?_
  refine Eq.trans (s_isub f_8_85) ?_
  exact s_call [zR 109, zI (zw ((zw ((M 113 v2) - v4)) - 1))] [zI (zw ((M 111 v2) + 1))] f_8_86 rfl c_8_82 rfl rfl (Nat.le_of_ble_eq_true rfl) (by show (zkn SH 109 == zown 2) = true; rw [show zkn SH 109 = 0 from kn_109]; rfl)
theorem q_8_89 {d : Nat} (v2 v3 v4 v5 s0 s1 : Int) (M : ZM) : Q d 8 89 [zR 109, zR 1, zI v2, zI v3, zI v4, zI v5, zU] [zI s1, zI s0] M = Cb (E d 17 [zR 1, zI v5, zI (zw (s0 + s1)), zI v3, zI v4] M) (fun v h => zrun (zevl d) 8 103 [zR 109, zR 1, zI v2, zI v3, zI v4, zI v5, zI (zw (s0 + s1))] (v.toList ++ []) h) := by
  refine Eq.trans (s_iadd f_8_89) ?_
  refine Eq.trans (s_istore f_8_90 rfl) ?_
  refine Eq.trans (s_aloadn f_8_92 rfl) ?_
  refine Eq.trans (s_iload f_8_93 rfl) ?_
  refine Eq.trans (s_iload f_8_95 rfl) ?_
  refine Eq.trans (s_iloadn f_8_97 rfl) ?_
  refine Eq.trans (s_iload f_8_98 rfl) ?_
  exact s_call [zR 1, zI v5, zI (zw (s0 + s1)), zI v3, zI v4] [] f_8_100 rfl c_8_91 rfl rfl (Nat.le_of_ble_eq_true rfl) (by show (zkn SH 1 == zown 17) = true; rw [show zkn SH 1 = 1 from kn_1]; rfl)
theorem q_8_103 {d : Nat} (v2 v3 v4 v5 v6 s0 : Int) (M : ZM) : Q d 8 103 [zR 109, zR 1, zI v2, zI v3, zI v4, zI v5, zI v6] [zI s0] M = Rt none M := by
  refine Eq.trans (s_pop f_8_103 rfl) ?_
  exact s_vret f_8_104 t_8
theorem en_8 {d : Nat} (v2 : Int) (M : ZM) : E (d + 1) 8 [zR 109, zR 1, zI v2] M = Q d 8 0 [zR 109, zR 1, zI v2, zU, zU, zU, zU] [] M := e_in (Nat.le_of_ble_eq_true rfl)
-- DungeonBuilder$Architect.join(LDungeonBuilder$Dungeon;II)V
theorem q_9_0 {d : Nat} (v2 v3 : Int) (M : ZM) : Q d 9 0 [zR 109, zR 1, zI v2, zI v3, zU, zU, zU, zU, zU] [] M = if 0 ≤ v2 ∧ v2 < 23 then Q d 9 18 [zR 109, zR 1, zI v2, zI v3, zI (-1), zI (-1), zI 40, zI (M 114 v2), zU] [] M else none := by
  refine Eq.trans (s_iconst f_9_0) ?_
  refine Eq.trans (s_istore f_9_1 rfl) ?_
  refine Eq.trans (s_iconst f_9_3) ?_
  refine Eq.trans (s_istore f_9_4 rfl) ?_
  refine Eq.trans (s_bipush f_9_6) ?_
  refine Eq.trans (s_istore f_9_8 rfl) ?_
  refine Eq.trans (s_aloadn f_9_10 rfl) ?_
  refine Eq.trans (s_getR f_9_11 g_9_24 (by decide) kn_109 rf_109_4) ?_
  refine Eq.trans (s_iloadn f_9_14 rfl) ?_
  refine Eq.trans (s_iald f_9_15 kn_114 ln_114) (gd_cg fun h1 => ?_)
  refine Eq.trans (s_istore f_9_16 rfl) ?_
  rfl
theorem q_9_18 {d : Nat} (v2 v3 v4 v5 v6 v7 : Int) (z8 : ZV) (M : ZM) : Q d 9 18 [zR 109, zR 1, zI v2, zI v3, zI v4, zI v5, zI v6, zI v7, z8] [] M = if 0 ≤ v2 ∧ v2 < 23 then if (M 115 v2) ≤ v7 then (Cb (E d 20 [zR 1, zI v4, zI v5] M) (fun v h => zrun (zevl d) 9 99 [zR 109, zR 1, zI v2, zI v3, zI v4, zI v5, zI v6, zI v7, z8] (v.toList ++ []) h)) else (if 0 ≤ v3 ∧ v3 < 23 then Q d 9 37 [zR 109, zR 1, zI v2, zI v3, zI v4, zI v5, zI v6, zI v7, zI (M 114 v3)] [] M else none) else none := by
  refine Eq.trans (s_iload f_9_18 rfl) ?_
  refine Eq.trans (s_aloadn f_9_20 rfl) ?_
  refine Eq.trans (s_getR f_9_21 g_9_27 (by decide) kn_109 rf_109_5) ?_
  refine Eq.trans (s_iloadn f_9_24 rfl) ?_
  refine Eq.trans (s_iald f_9_25 kn_115 ln_115) (gd_cg fun h1 => ?_)
  refine Eq.trans (s_icmp (P := (M 115 v2) ≤ v7) 91 f_9_26 (by decide) rfl) (ite_cg (fun h2 => ?_) (fun h2 => ?_))
  · refine Eq.trans (s_aloadn f_9_91 rfl) ?_
    refine Eq.trans (s_iload f_9_92 rfl) ?_
    refine Eq.trans (s_iload f_9_94 rfl) ?_
    exact s_call [zR 1, zI v4, zI v5] [] f_9_96 rfl c_9_97 rfl rfl (Nat.le_of_ble_eq_true rfl) (by show (zkn SH 1 == zown 20) = true; rw [show zkn SH 1 = 1 from kn_1]; rfl)
  · refine Eq.trans (s_aloadn f_9_29 rfl) ?_
    refine Eq.trans (s_getR f_9_30 g_9_24 (by decide) kn_109 rf_109_4) ?_
    refine Eq.trans (s_iloadn f_9_33 rfl) ?_
    refine Eq.trans (s_iald f_9_34 kn_114 ln_114) (gd_cg fun h3 => ?_)
    refine Eq.trans (s_istore f_9_35 rfl) ?_
    rfl
theorem q_9_37 {d : Nat} (v2 v3 v4 v5 v6 v7 v8 : Int) (M : ZM) : Q d 9 37 [zR 109, zR 1, zI v2, zI v3, zI v4, zI v5, zI v6, zI v7, zI v8] [] M = if 0 ≤ v3 ∧ v3 < 23 then if (M 115 v3) ≤ v8 then (Q d 9 18 [zR 109, zR 1, zI v2, zI v3, zI v4, zI v5, zI v6, zI (zw (v7 + 1)), zI v8] [] M) else (Cb (E d 34 [zR 1, zI v7, zI v8] M) (fun v h => zrun (zevl d) 9 56 [zR 109, zR 1, zI v2, zI v3, zI v4, zI v5, zI v6, zI v7, zI v8] (v.toList ++ []) h)) else none := by
  refine Eq.trans (s_iload f_9_37 rfl) ?_
  refine Eq.trans (s_aloadn f_9_39 rfl) ?_
  refine Eq.trans (s_getR f_9_40 g_9_27 (by decide) kn_109 rf_109_5) ?_
  refine Eq.trans (s_iloadn f_9_43 rfl) ?_
  refine Eq.trans (s_iald f_9_44 kn_115 ln_115) (gd_cg fun h1 => ?_)
  refine Eq.trans (s_icmp (P := (M 115 v3) ≤ v8) 85 f_9_45 (by decide) rfl) (ite_cg (fun h2 => ?_) (fun h2 => ?_))
  · refine Eq.trans (s_iinc f_9_85 rfl rfl) ?_
    refine Eq.trans (s_goto 18 f_9_88 (by decide)) ?_
    rfl
  · refine Eq.trans (s_aloadn f_9_48 rfl) ?_
    refine Eq.trans (s_iload f_9_49 rfl) ?_
    refine Eq.trans (s_iload f_9_51 rfl) ?_
    exact s_call [zR 1, zI v7, zI v8] [] f_9_53 rfl c_9_94 rfl rfl (Nat.le_of_ble_eq_true rfl) (by show (zkn SH 1 == zown 34) = true; rw [show zkn SH 1 = 1 from kn_1]; rfl)
theorem q_9_56 {d : Nat} (v2 v3 v4 v5 v6 v7 v8 s0 : Int) (M : ZM) : Q d 9 56 [zR 109, zR 1, zI v2, zI v3, zI v4, zI v5, zI v6, zI v7, zI v8] [zI s0] M = if v6 ≤ s0 then (Q d 9 37 [zR 109, zR 1, zI v2, zI v3, zI v4, zI v5, zI v6, zI v7, zI (zw (v8 + 1))] [] M) else (Cb (E d 34 [zR 1, zI v7, zI v8] M) (fun v h => zrun (zevl d) 9 77 [zR 109, zR 1, zI v2, zI v3, zI v7, zI v8, zI v6, zI v7, zI v8] (v.toList ++ []) h)) := by
  refine Eq.trans (s_iload f_9_56 rfl) ?_
  refine Eq.trans (s_icmp (P := v6 ≤ s0) 79 f_9_58 (by decide) rfl) (ite_cg (fun h1 => ?_) (fun h1 => ?_))
  · refine Eq.trans (s_iinc f_9_79 rfl rfl) ?_
    refine Eq.trans (s_goto 37 f_9_82 (by decide)) ?_
    rfl
  · refine Eq.trans (s_iload f_9_61 rfl) ?_
    refine Eq.trans (s_istore f_9_63 rfl) ?_
    refine Eq.trans (s_iload f_9_65 rfl) ?_
    refine Eq.trans (s_istore f_9_67 rfl) ?_
    refine Eq.trans (s_aloadn f_9_69 rfl) ?_
    refine Eq.trans (s_iload f_9_70 rfl) ?_
    refine Eq.trans (s_iload f_9_72 rfl) ?_
    exact s_call [zR 1, zI v7, zI v8] [] f_9_74 rfl c_9_94 rfl rfl (Nat.le_of_ble_eq_true rfl) (by show (zkn SH 1 == zown 34) = true; rw [show zkn SH 1 = 1 from kn_1]; rfl)
theorem q_9_77 {d : Nat} (v2 v3 v4 v5 v6 v7 v8 s0 : Int) (M : ZM) : Q d 9 77 [zR 109, zR 1, zI v2, zI v3, zI v4, zI v5, zI v6, zI v7, zI v8] [zI s0] M = Q d 9 37 [zR 109, zR 1, zI v2, zI v3, zI v4, zI v5, zI s0, zI v7, zI (zw (v8 + 1))] [] M := by
  refine Eq.trans (s_istore f_9_77 rfl) ?_
  refine Eq.trans (s_iinc f_9_79 rfl rfl) ?_
  refine Eq.trans (s_goto 37 f_9_82 (by decide)) ?_
  rfl
theorem q_9_99 {d : Nat} (v2 v3 v4 v5 v6 v7 s0 : Int) (z8 : ZV) (M : ZM) : Q d 9 99 [zR 109, zR 1, zI v2, zI v3, zI v4, zI v5, zI v6, zI v7, z8] [zI s0] M = Rt none M := by
  refine Eq.trans (s_pop f_9_99 rfl) ?_
  exact s_vret f_9_100 t_9
theorem en_9 {d : Nat} (v2 v3 : Int) (M : ZM) : E (d + 1) 9 [zR 109, zR 1, zI v2, zI v3] M = Q d 9 0 [zR 109, zR 1, zI v2, zI v3, zU, zU, zU, zU, zU] [] M := e_in (Nat.le_of_ble_eq_true rfl)
-- DungeonBuilder$Dungeon.become(LDungeonBuilder$Dungeon;)V
theorem q_11_0 {d : Nat} {D : Nat} (hD : zDn D) {F : Nat} (hF : zDn F) (M : ZM) : Q d 11 0 [zR D, zR F, zU] [] M = Q d 11 2 [zR D, zR F, zI 0] [] M := by
  refine Eq.trans (s_iconst f_11_0) ?_
  refine Eq.trans (s_istoren f_11_1 rfl) ?_
  rfl
theorem q_11_2 {d : Nat} {D : Nat} (hD : zDn D) {F : Nat} (hF : zDn F) (v2 : Int) (M : ZM) : Q d 11 2 [zR D, zR F, zI v2] [] M = if (M F 8) ≤ v2 then (Q d 11 25 [zR D, zR F, zI 0] [] M) else (Cb (E d 12 [zR D, zI v2, zR F, zI v2] M) (fun v h => zrun (zevl d) 11 17 [zR D, zR F, zI v2] (v.toList ++ []) h)) := by
  refine Eq.trans (s_iloadn f_11_2 rfl) ?_
  refine Eq.trans (s_aloadn f_11_3 rfl) ?_
  refine Eq.trans (s_getI f_11_4 g_11_36 (by decide) (dg_kn hF)) ?_
  refine Eq.trans (s_icmp (P := (M F 8) ≤ v2) 23 f_11_7 (by decide) rfl) (ite_cg (fun h1 => ?_) (fun h1 => ?_))
  · refine Eq.trans (s_iconst f_11_23) ?_
    refine Eq.trans (s_istoren f_11_24 rfl) ?_
    rfl
  · refine Eq.trans (s_aloadn f_11_10 rfl) ?_
    refine Eq.trans (s_iloadn f_11_11 rfl) ?_
    refine Eq.trans (s_aloadn f_11_12 rfl) ?_
    refine Eq.trans (s_iloadn f_11_13 rfl) ?_
    exact s_call [zR D, zI v2, zR F, zI v2] [] f_11_14 rfl c_11_49 rfl rfl (Nat.le_of_ble_eq_true rfl) (by show (zkn SH D == zown 12) = true; rw [show zkn SH D = 1 from (dg_kn hD)]; rfl)
theorem q_11_17 {d : Nat} {D : Nat} (hD : zDn D) {F : Nat} (hF : zDn F) (v2 : Int) (M : ZM) : Q d 11 17 [zR D, zR F, zI v2] [] M = Q d 11 2 [zR D, zR F, zI (zw (v2 + 1))] [] M := by
  refine Eq.trans (s_iinc f_11_17 rfl rfl) ?_
  refine Eq.trans (s_goto 2 f_11_20 (by decide)) ?_
  rfl
theorem q_11_25 {d : Nat} {D : Nat} (hD : zDn D) {F : Nat} (hF : zDn F) (v2 : Int) (M : ZM) : Q d 11 25 [zR D, zR F, zI v2] [] M = if (M F 9) ≤ v2 then (Rt none (zwr (zwr (zwr (zwr M D 8 (M F 8)) D 9 ((zwr M D 8 (M F 8)) F 9)) D 10 ((zwr (zwr M D 8 (M F 8)) D 9 ((zwr M D 8 (M F 8)) F 9)) F 10)) D 11 ((zwr (zwr (zwr M D 8 (M F 8)) D 9 ((zwr M D 8 (M F 8)) F 9)) D 10 ((zwr (zwr M D 8 (M F 8)) D 9 ((zwr M D 8 (M F 8)) F 9)) F 10)) F 11))) else (Cb (E d 13 [zR D, zI v2, zR F, zI v2] M) (fun v h => zrun (zevl d) 11 40 [zR D, zR F, zI v2] (v.toList ++ []) h)) := by
  refine Eq.trans (s_iloadn f_11_25 rfl) ?_
  refine Eq.trans (s_aloadn f_11_26 rfl) ?_
  refine Eq.trans (s_getI f_11_27 g_11_40 (by decide) (dg_kn hF)) ?_
  refine Eq.trans (s_icmp (P := (M F 9) ≤ v2) 46 f_11_30 (by decide) rfl) (ite_cg (fun h1 => ?_) (fun h1 => ?_))
  · refine Eq.trans (s_aloadn f_11_46 rfl) ?_
    refine Eq.trans (s_aloadn f_11_47 rfl) ?_
    refine Eq.trans (s_getI f_11_48 g_11_36 (by decide) (dg_kn hF)) ?_
    refine Eq.trans (s_putI f_11_51 g_11_36 (by decide) (dg_kn hD)) ?_
    refine Eq.trans (s_aloadn f_11_54 rfl) ?_
    refine Eq.trans (s_aloadn f_11_55 rfl) ?_
    refine Eq.trans (s_getI f_11_56 g_11_40 (by decide) (dg_kn hF)) ?_
    refine Eq.trans (s_putI f_11_59 g_11_40 (by decide) (dg_kn hD)) ?_
    refine Eq.trans (s_aloadn f_11_62 rfl) ?_
    refine Eq.trans (s_aloadn f_11_63 rfl) ?_
    refine Eq.trans (s_getI f_11_64 g_11_43 (by decide) (dg_kn hF)) ?_
    refine Eq.trans (s_putI f_11_67 g_11_43 (by decide) (dg_kn hD)) ?_
    refine Eq.trans (s_aloadn f_11_70 rfl) ?_
    refine Eq.trans (s_aloadn f_11_71 rfl) ?_
    refine Eq.trans (s_getI f_11_72 g_11_46 (by decide) (dg_kn hF)) ?_
    refine Eq.trans (s_putI f_11_75 g_11_46 (by decide) (dg_kn hD)) ?_
    exact s_vret f_11_78 t_11
  · refine Eq.trans (s_aloadn f_11_33 rfl) ?_
    refine Eq.trans (s_iloadn f_11_34 rfl) ?_
    refine Eq.trans (s_aloadn f_11_35 rfl) ?_
    refine Eq.trans (s_iloadn f_11_36 rfl) ?_
    exact s_call [zR D, zI v2, zR F, zI v2] [] f_11_37 rfl c_11_53 rfl rfl (Nat.le_of_ble_eq_true rfl) (by show (zkn SH D == zown 13) = true; rw [show zkn SH D = 1 from (dg_kn hD)]; rfl)
theorem q_11_40 {d : Nat} {D : Nat} (hD : zDn D) {F : Nat} (hF : zDn F) (v2 : Int) (M : ZM) : Q d 11 40 [zR D, zR F, zI v2] [] M = Q d 11 25 [zR D, zR F, zI (zw (v2 + 1))] [] M := by
  refine Eq.trans (s_iinc f_11_40 rfl rfl) ?_
  refine Eq.trans (s_goto 25 f_11_43 (by decide)) ?_
  rfl
theorem en_11 {d : Nat} {D : Nat} {F : Nat} (M : ZM) : E (d + 1) 11 [zR D, zR F] M = Q d 11 0 [zR D, zR F, zU] [] M := e_in (Nat.le_of_ble_eq_true rfl)
-- DungeonBuilder$Dungeon.takeRoom(ILDungeonBuilder$Dungeon;I)V
theorem q_12_0 {d : Nat} {D : Nat} (hD : zDn D) {F : Nat} (hF : zDn F) (v1 v3 : Int) (M : ZM) : Q d 12 0 [zR D, zI v1, zR F, zI v3] [] M = if 0 ≤ v3 ∧ v3 < 12 then if 0 ≤ v1 ∧ v1 < 12 then if 0 ≤ v3 ∧ v3 < 12 then if 0 ≤ v1 ∧ v1 < 12 then if 0 ≤ v3 ∧ v3 < 12 then if 0 ≤ v1 ∧ v1 < 12 then if 0 ≤ v3 ∧ v3 < 12 then if 0 ≤ v1 ∧ v1 < 12 then if 0 ≤ v3 ∧ v3 < 12 then if 0 ≤ v1 ∧ v1 < 12 then Rt none (zwr (zwr (zwr (zwr (zwr M (D + 1) v1 (M (F + 1) v3)) (D + 2) v1 ((zwr M (D + 1) v1 (M (F + 1) v3)) (F + 2) v3)) (D + 3) v1 ((zwr (zwr M (D + 1) v1 (M (F + 1) v3)) (D + 2) v1 ((zwr M (D + 1) v1 (M (F + 1) v3)) (F + 2) v3)) (F + 3) v3)) (D + 4) v1 ((zwr (zwr (zwr M (D + 1) v1 (M (F + 1) v3)) (D + 2) v1 ((zwr M (D + 1) v1 (M (F + 1) v3)) (F + 2) v3)) (D + 3) v1 ((zwr (zwr M (D + 1) v1 (M (F + 1) v3)) (D + 2) v1 ((zwr M (D + 1) v1 (M (F + 1) v3)) (F + 2) v3)) (F + 3) v3)) (F + 4) v3)) (D + 5) v1 ((zwr (zwr (zwr (zwr M (D + 1) v1 (M (F + 1) v3)) (D + 2) v1 ((zwr M (D + 1) v1 (M (F + 1) v3)) (F + 2) v3)) (D + 3) v1 ((zwr (zwr M (D + 1) v1 (M (F + 1) v3)) (D + 2) v1 ((zwr M (D + 1) v1 (M (F + 1) v3)) (F + 2) v3)) (F + 3) v3)) (D + 4) v1 ((zwr (zwr (zwr M (D + 1) v1 (M (F + 1) v3)) (D + 2) v1 ((zwr M (D + 1) v1 (M (F + 1) v3)) (F + 2) v3)) (D + 3) v1 ((zwr (zwr M (D + 1) v1 (M (F + 1) v3)) (D + 2) v1 ((zwr M (D + 1) v1 (M (F + 1) v3)) (F + 2) v3)) (F + 3) v3)) (F + 4) v3)) (F + 5) v3)) else none else none else none else none else none else none else none else none else none else none := by
  refine Eq.trans (s_aloadn f_12_0 rfl) ?_
  refine Eq.trans (s_getR f_12_1 g_12_9 (by decide) (dg_kn hD) (dg_rf0 hD)) ?_
  refine Eq.trans (s_iloadn f_12_4 rfl) ?_
  refine Eq.trans (s_aloadn f_12_5 rfl) ?_
  refine Eq.trans (s_getR f_12_6 g_12_9 (by decide) (dg_kn hF) (dg_rf0 hF)) ?_
  refine Eq.trans (s_iloadn f_12_9 rfl) ?_
  refine Eq.trans (s_iald f_12_10 (dg_ka1 hF) (dg_ln1 hF)) (gd_cg fun h1 => ?_)
  refine Eq.trans (s_iast f_12_11 (dg_ka1 hD) (dg_ln1 hD)) (gd_cg fun h2 => ?_)
  refine Eq.trans (s_aloadn f_12_12 rfl) ?_
  refine Eq.trans (s_getR f_12_13 g_12_15 (by decide) (dg_kn hD) (dg_rf1 hD)) ?_
  refine Eq.trans (s_iloadn f_12_16 rfl) ?_
  refine Eq.trans (s_aloadn f_12_17 rfl) ?_
  refine Eq.trans (s_getR f_12_18 g_12_15 (by decide) (dg_kn hF) (dg_rf1 hF)) ?_
  refine Eq.trans (s_iloadn f_12_21 rfl) ?_
  refine Eq.trans (s_iald f_12_22 (dg_ka2 hF) (dg_ln2 hF)) (gd_cg fun h3 => ?_)
  refine Eq.trans (s_iast f_12_23 (dg_ka2 hD) (dg_ln2 hD)) (gd_cg fun h4 => ?_)
  refine Eq.trans (s_aloadn f_12_24 rfl) ?_
  refine Eq.trans (s_getR f_12_25 g_12_18 (by decide) (dg_kn hD) (dg_rf2 hD)) ?_
  refine Eq.trans (s_iloadn f_12_28 rfl) ?_
  refine Eq.trans (s_aloadn f_12_29 rfl) ?_
  refine Eq.trans (s_getR f_12_30 g_12_18 (by decide) (dg_kn hF) (dg_rf2 hF)) ?_
  refine Eq.trans (s_iloadn f_12_33 rfl) ?_
  refine Eq.trans (s_iald f_12_34 (dg_ka3 hF) (dg_ln3 hF)) (gd_cg fun h5 => ?_)
  refine Eq.trans (s_iast f_12_35 (dg_ka3 hD) (dg_ln3 hD)) (gd_cg fun h6 => ?_)
  refine Eq.trans (s_aloadn f_12_36 rfl) ?_
  refine Eq.trans (s_getR f_12_37 g_12_21 (by decide) (dg_kn hD) (dg_rf3 hD)) ?_
  refine Eq.trans (s_iloadn f_12_40 rfl) ?_
  refine Eq.trans (s_aloadn f_12_41 rfl) ?_
  refine Eq.trans (s_getR f_12_42 g_12_21 (by decide) (dg_kn hF) (dg_rf3 hF)) ?_
  refine Eq.trans (s_iloadn f_12_45 rfl) ?_
  refine Eq.trans (s_iald f_12_46 (dg_ka4 hF) (dg_ln4 hF)) (gd_cg fun h7 => ?_)
  refine Eq.trans (s_iast f_12_47 (dg_ka4 hD) (dg_ln4 hD)) (gd_cg fun h8 => ?_)
  refine Eq.trans (s_aloadn f_12_48 rfl) ?_
  refine Eq.trans (s_getR f_12_49 g_12_24 (by decide) (dg_kn hD) (dg_rf4 hD)) ?_
  refine Eq.trans (s_iloadn f_12_52 rfl) ?_
  refine Eq.trans (s_aloadn f_12_53 rfl) ?_
  refine Eq.trans (s_getR f_12_54 g_12_24 (by decide) (dg_kn hF) (dg_rf4 hF)) ?_
  refine Eq.trans (s_iloadn f_12_57 rfl) ?_
  refine Eq.trans (s_iald f_12_58 (dg_ka5 hF) (dg_ln5 hF)) (gd_cg fun h9 => ?_)
  refine Eq.trans (s_iast f_12_59 (dg_ka5 hD) (dg_ln5 hD)) (gd_cg fun h10 => ?_)
  exact s_vret f_12_60 t_12
theorem en_12 {d : Nat} {D : Nat} {F : Nat} (v1 v3 : Int) (M : ZM) : E (d + 1) 12 [zR D, zI v1, zR F, zI v3] M = Q d 12 0 [zR D, zI v1, zR F, zI v3] [] M := e_in (Nat.le_of_ble_eq_true rfl)
-- DungeonBuilder$Dungeon.takeCorridor(ILDungeonBuilder$Dungeon;I)V
theorem q_13_0 {d : Nat} {D : Nat} (hD : zDn D) {F : Nat} (hF : zDn F) (v1 v3 : Int) (M : ZM) : Q d 13 0 [zR D, zI v1, zR F, zI v3] [] M = if 0 ≤ v3 ∧ v3 < 20 then if 0 ≤ v1 ∧ v1 < 20 then if 0 ≤ v3 ∧ v3 < 20 then if 0 ≤ v1 ∧ v1 < 20 then if 0 ≤ v3 ∧ v3 < 20 then if 0 ≤ v1 ∧ v1 < 20 then Rt none (zwr (zwr (zwr M (D + 6) v1 (M (F + 6) v3)) (D + 7) v1 ((zwr M (D + 6) v1 (M (F + 6) v3)) (F + 7) v3)) (D + 8) v1 ((zwr (zwr M (D + 6) v1 (M (F + 6) v3)) (D + 7) v1 ((zwr M (D + 6) v1 (M (F + 6) v3)) (F + 7) v3)) (F + 8) v3)) else none else none else none else none else none else none := by
  refine Eq.trans (s_aloadn f_13_0 rfl) ?_
  refine Eq.trans (s_getR f_13_1 g_13_27 (by decide) (dg_kn hD) (dg_rf5 hD)) ?_
  refine Eq.trans (s_iloadn f_13_4 rfl) ?_
  refine Eq.trans (s_aloadn f_13_5 rfl) ?_
  refine Eq.trans (s_getR f_13_6 g_13_27 (by decide) (dg_kn hF) (dg_rf5 hF)) ?_
  refine Eq.trans (s_iloadn f_13_9 rfl) ?_
  refine Eq.trans (s_iald f_13_10 (dg_ka6 hF) (dg_ln6 hF)) (gd_cg fun h1 => ?_)
  refine Eq.trans (s_iast f_13_11 (dg_ka6 hD) (dg_ln6 hD)) (gd_cg fun h2 => ?_)
  refine Eq.trans (s_aloadn f_13_12 rfl) ?_
  refine Eq.trans (s_getR f_13_13 g_13_30 (by decide) (dg_kn hD) (dg_rf6 hD)) ?_
  refine Eq.trans (s_iloadn f_13_16 rfl) ?_
  refine Eq.trans (s_aloadn f_13_17 rfl) ?_
  refine Eq.trans (s_getR f_13_18 g_13_30 (by decide) (dg_kn hF) (dg_rf6 hF)) ?_
  refine Eq.trans (s_iloadn f_13_21 rfl) ?_
  refine Eq.trans (s_iald f_13_22 (dg_ka7 hF) (dg_ln7 hF)) (gd_cg fun h3 => ?_)
  refine Eq.trans (s_iast f_13_23 (dg_ka7 hD) (dg_ln7 hD)) (gd_cg fun h4 => ?_)
  refine Eq.trans (s_aloadn f_13_24 rfl) ?_
  refine Eq.trans (s_getR f_13_25 g_13_33 (by decide) (dg_kn hD) (dg_rf7 hD)) ?_
  refine Eq.trans (s_iloadn f_13_28 rfl) ?_
  refine Eq.trans (s_aloadn f_13_29 rfl) ?_
  refine Eq.trans (s_getR f_13_30 g_13_33 (by decide) (dg_kn hF) (dg_rf7 hF)) ?_
  refine Eq.trans (s_iloadn f_13_33 rfl) ?_
  refine Eq.trans (s_iald f_13_34 (dg_ka8 hF) (dg_ln8 hF)) (gd_cg fun h5 => ?_)
  refine Eq.trans (s_iast f_13_35 (dg_ka8 hD) (dg_ln8 hD)) (gd_cg fun h6 => ?_)
  exact s_vret f_13_36 t_13
theorem en_13 {d : Nat} {D : Nat} {F : Nat} (v1 v3 : Int) (M : ZM) : E (d + 1) 13 [zR D, zI v1, zR F, zI v3] M = Q d 13 0 [zR D, zI v1, zR F, zI v3] [] M := e_in (Nat.le_of_ble_eq_true rfl)
-- DungeonBuilder$Dungeon.clear()V
theorem q_14_0 {d : Nat} (M : ZM) : Q d 14 0 [zR 1] [] M = Rt none (zwr (zwr (zwr M 1 8 0) 1 9 0) 1 10 0) := by
  refine Eq.trans (s_aloadn f_14_0 rfl) ?_
  refine Eq.trans (s_iconst f_14_1) ?_
  refine Eq.trans (s_putI f_14_2 g_14_36 (by decide) kn_1) ?_
  refine Eq.trans (s_aloadn f_14_5 rfl) ?_
  refine Eq.trans (s_iconst f_14_6) ?_
  refine Eq.trans (s_putI f_14_7 g_14_40 (by decide) kn_1) ?_
  refine Eq.trans (s_aloadn f_14_10 rfl) ?_
  refine Eq.trans (s_iconst f_14_11) ?_
  refine Eq.trans (s_putI f_14_12 g_14_43 (by decide) kn_1) ?_
  exact s_vret f_14_15 t_14
theorem en_14 {d : Nat} (M : ZM) : E (d + 1) 14 [zR 1] M = Q d 14 0 [zR 1] [] M := e_in (Nat.le_of_ble_eq_true rfl)
-- DungeonBuilder$Dungeon.hasRoom(I)Z
theorem q_15_0 {d : Nat} (v1 : Int) (M : ZM) : Q d 15 0 [zR 1, zI v1] [] M = if v1 < 0 then (Rt (some (zI 0)) M) else (if (M 1 8) ≤ v1 then (Rt (some (zI 0)) M) else (Rt (some (zI 1)) M)) := by
  refine Eq.trans (s_iloadn f_15_0 rfl) ?_
  refine Eq.trans (s_if (P := v1 < 0) 16 f_15_1 (by decide) rfl) (ite_cg (fun h1 => ?_) (fun h1 => ?_))
  · refine Eq.trans (s_iconst f_15_16) ?_
    exact s_zret f_15_17 t_15 (by decide)
  · refine Eq.trans (s_iloadn f_15_4 rfl) ?_
    refine Eq.trans (s_aloadn f_15_5 rfl) ?_
    refine Eq.trans (s_getI f_15_6 g_15_36 (by decide) kn_1) ?_
    refine Eq.trans (s_icmp (P := (M 1 8) ≤ v1) 16 f_15_9 (by decide) rfl) (ite_cg (fun h2 => ?_) (fun h2 => ?_))
    · refine Eq.trans (s_iconst f_15_16) ?_
      exact s_zret f_15_17 t_15 (by decide)
    · refine Eq.trans (s_iconst f_15_12) ?_
      refine Eq.trans (s_goto 17 f_15_13 (by decide)) ?_
      exact s_zret f_15_17 t_15 (by decide)
theorem en_15 {d : Nat} (v1 : Int) (M : ZM) : E (d + 1) 15 [zR 1, zI v1] M = Q d 15 0 [zR 1, zI v1] [] M := e_in (Nat.le_of_ble_eq_true rfl)
-- DungeonBuilder$Dungeon.hasCorridor(I)Z
theorem q_16_0 {d : Nat} (v1 : Int) (M : ZM) : Q d 16 0 [zR 1, zI v1] [] M = if v1 < 0 then (Rt (some (zI 0)) M) else (if (M 1 9) ≤ v1 then (Rt (some (zI 0)) M) else (Rt (some (zI 1)) M)) := by
  refine Eq.trans (s_iloadn f_16_0 rfl) ?_
  refine Eq.trans (s_if (P := v1 < 0) 16 f_16_1 (by decide) rfl) (ite_cg (fun h1 => ?_) (fun h1 => ?_))
  · refine Eq.trans (s_iconst f_16_16) ?_
    exact s_zret f_16_17 t_16 (by decide)
  · refine Eq.trans (s_iloadn f_16_4 rfl) ?_
    refine Eq.trans (s_aloadn f_16_5 rfl) ?_
    refine Eq.trans (s_getI f_16_6 g_16_40 (by decide) kn_1) ?_
    refine Eq.trans (s_icmp (P := (M 1 9) ≤ v1) 16 f_16_9 (by decide) rfl) (ite_cg (fun h2 => ?_) (fun h2 => ?_))
    · refine Eq.trans (s_iconst f_16_16) ?_
      exact s_zret f_16_17 t_16 (by decide)
    · refine Eq.trans (s_iconst f_16_12) ?_
      refine Eq.trans (s_goto 17 f_16_13 (by decide)) ?_
      exact s_zret f_16_17 t_16 (by decide)
theorem en_16 {d : Nat} (v1 : Int) (M : ZM) : E (d + 1) 16 [zR 1, zI v1] M = Q d 16 0 [zR 1, zI v1] [] M := e_in (Nat.le_of_ble_eq_true rfl)
-- DungeonBuilder$Dungeon.insertRoom(IIII)I
theorem q_17_0 {d : Nat} (v1 v2 v3 v4 : Int) (M : ZM) : Q d 17 0 [zR 1, zI v1, zI v2, zI v3, zI v4] [] M = Cb (E d 18 [zI v1, zI v2, zI v3, zI v4] M) (fun v h => zrun (zevl d) 17 8 [zR 1, zI v1, zI v2, zI v3, zI v4] (v.toList ++ []) h) := by
  refine Eq.trans (s_iloadn f_17_0 rfl) ?_
  refine Eq.trans (s_iloadn f_17_1 rfl) ?_
  refine Eq.trans (s_iloadn f_17_2 rfl) ?_
  refine Eq.trans (s_iload f_17_3 rfl) ?_
  exact s_call [zI v1, zI v2, zI v3, zI v4] [] f_17_5 rfl c_17_56 rfl rfl (Nat.le_of_ble_eq_true rfl) rfl
theorem q_17_8 {d : Nat} (v1 v2 v3 v4 s0 : Int) (M : ZM) : Q d 17 8 [zR 1, zI v1, zI v2, zI v3, zI v4] [zI s0] M = if s0 ≠ 0 then (Cb (E d 19 [zR 1, zI v1, zI v2, zI v3, zI v4] M) (fun v h => zrun (zevl d) 17 23 [zR 1, zI v1, zI v2, zI v3, zI v4] (v.toList ++ []) h)) else (Rt (some (zI (-102))) M) := by
  refine Eq.trans (s_if (P := s0 ≠ 0) 14 f_17_8 (by decide) rfl) (ite_cg (fun h1 => ?_) (fun h1 => ?_))
  · refine Eq.trans (s_aloadn f_17_14 rfl) ?_
    refine Eq.trans (s_iloadn f_17_15 rfl) ?_
    refine Eq.trans (s_iloadn f_17_16 rfl) ?_
    refine Eq.trans (s_iloadn f_17_17 rfl) ?_
    refine Eq.trans (s_iload f_17_18 rfl) ?_
    exact s_call [zR 1, zI v1, zI v2, zI v3, zI v4] [] f_17_20 rfl c_17_60 rfl rfl (Nat.le_of_ble_eq_true rfl) (by show (zkn SH 1 == zown 19) = true; rw [show zkn SH 1 = 1 from kn_1]; rfl)
  · refine Eq.trans (s_bipush f_17_11) ?_
    exact s_iret f_17_13 t_17
theorem q_17_23 {d : Nat} (v1 v2 v3 v4 s0 : Int) (M : ZM) : Q d 17 23 [zR 1, zI v1, zI v2, zI v3, zI v4] [zI s0] M = if s0 = 0 then (if (M 1 8) < 12 then (if 0 ≤ (M 1 8) ∧ (M 1 8) < 12 then if 0 ≤ ((zwr M 2 (M 1 8) v1) 1 8) ∧ ((zwr M 2 (M 1 8) v1) 1 8) < 12 then if 0 ≤ ((zwr (zwr M 2 (M 1 8) v1) 3 ((zwr M 2 (M 1 8) v1) 1 8) v2) 1 8) ∧ ((zwr (zwr M 2 (M 1 8) v1) 3 ((zwr M 2 (M 1 8) v1) 1 8) v2) 1 8) < 12 then if 0 ≤ ((zwr (zwr (zwr M 2 (M 1 8) v1) 3 ((zwr M 2 (M 1 8) v1) 1 8) v2) 4 ((zwr (zwr M 2 (M 1 8) v1) 3 ((zwr M 2 (M 1 8) v1) 1 8) v2) 1 8) v3) 1 8) ∧ ((zwr (zwr (zwr M 2 (M 1 8) v1) 3 ((zwr M 2 (M 1 8) v1) 1 8) v2) 4 ((zwr (zwr M 2 (M 1 8) v1) 3 ((zwr M 2 (M 1 8) v1) 1 8) v2) 1 8) v3) 1 8) < 12 then if 0 ≤ ((zwr (zwr (zwr (zwr M 2 (M 1 8) v1) 3 ((zwr M 2 (M 1 8) v1) 1 8) v2) 4 ((zwr (zwr M 2 (M 1 8) v1) 3 ((zwr M 2 (M 1 8) v1) 1 8) v2) 1 8) v3) 5 ((zwr (zwr (zwr M 2 (M 1 8) v1) 3 ((zwr M 2 (M 1 8) v1) 1 8) v2) 4 ((zwr (zwr M 2 (M 1 8) v1) 3 ((zwr M 2 (M 1 8) v1) 1 8) v2) 1 8) v3) 1 8) v4) 1 8) ∧ ((zwr (zwr (zwr (zwr M 2 (M 1 8) v1) 3 ((zwr M 2 (M 1 8) v1) 1 8) v2) 4 ((zwr (zwr M 2 (M 1 8) v1) 3 ((zwr M 2 (M 1 8) v1) 1 8) v2) 1 8) v3) 5 ((zwr (zwr (zwr M 2 (M 1 8) v1) 3 ((zwr M 2 (M 1 8) v1) 1 8) v2) 4 ((zwr (zwr M 2 (M 1 8) v1) 3 ((zwr M 2 (M 1 8) v1) 1 8) v2) 1 8) v3) 1 8) v4) 1 8) < 12 then Rt (some (zI (zw (((zwr (zwr (zwr (zwr (zwr (zwr M 2 (M 1 8) v1) 3 ((zwr M 2 (M 1 8) v1) 1 8) v2) 4 ((zwr (zwr M 2 (M 1 8) v1) 3 ((zwr M 2 (M 1 8) v1) 1 8) v2) 1 8) v3) 5 ((zwr (zwr (zwr M 2 (M 1 8) v1) 3 ((zwr M 2 (M 1 8) v1) 1 8) v2) 4 ((zwr (zwr M 2 (M 1 8) v1) 3 ((zwr M 2 (M 1 8) v1) 1 8) v2) 1 8) v3) 1 8) v4) 6 ((zwr (zwr (zwr (zwr M 2 (M 1 8) v1) 3 ((zwr M 2 (M 1 8) v1) 1 8) v2) 4 ((zwr (zwr M 2 (M 1 8) v1) 3 ((zwr M 2 (M 1 8) v1) 1 8) v2) 1 8) v3) 5 ((zwr (zwr (zwr M 2 (M 1 8) v1) 3 ((zwr M 2 (M 1 8) v1) 1 8) v2) 4 ((zwr (zwr M 2 (M 1 8) v1) 3 ((zwr M 2 (M 1 8) v1) 1 8) v2) 1 8) v3) 1 8) v4) 1 8) (-1)) 1 8 (zw (((zwr (zwr (zwr (zwr (zwr M 2 (M 1 8) v1) 3 ((zwr M 2 (M 1 8) v1) 1 8) v2) 4 ((zwr (zwr M 2 (M 1 8) v1) 3 ((zwr M 2 (M 1 8) v1) 1 8) v2) 1 8) v3) 5 ((zwr (zwr (zwr M 2 (M 1 8) v1) 3 ((zwr M 2 (M 1 8) v1) 1 8) v2) 4 ((zwr (zwr M 2 (M 1 8) v1) 3 ((zwr M 2 (M 1 8) v1) 1 8) v2) 1 8) v3) 1 8) v4) 6 ((zwr (zwr (zwr (zwr M 2 (M 1 8) v1) 3 ((zwr M 2 (M 1 8) v1) 1 8) v2) 4 ((zwr (zwr M 2 (M 1 8) v1) 3 ((zwr M 2 (M 1 8) v1) 1 8) v2) 1 8) v3) 5 ((zwr (zwr (zwr M 2 (M 1 8) v1) 3 ((zwr M 2 (M 1 8) v1) 1 8) v2) 4 ((zwr (zwr M 2 (M 1 8) v1) 3 ((zwr M 2 (M 1 8) v1) 1 8) v2) 1 8) v3) 1 8) v4) 1 8) (-1)) 1 8) + 1))) 1 8) - 1)))) (zwr (zwr (zwr (zwr (zwr (zwr M 2 (M 1 8) v1) 3 ((zwr M 2 (M 1 8) v1) 1 8) v2) 4 ((zwr (zwr M 2 (M 1 8) v1) 3 ((zwr M 2 (M 1 8) v1) 1 8) v2) 1 8) v3) 5 ((zwr (zwr (zwr M 2 (M 1 8) v1) 3 ((zwr M 2 (M 1 8) v1) 1 8) v2) 4 ((zwr (zwr M 2 (M 1 8) v1) 3 ((zwr M 2 (M 1 8) v1) 1 8) v2) 1 8) v3) 1 8) v4) 6 ((zwr (zwr (zwr (zwr M 2 (M 1 8) v1) 3 ((zwr M 2 (M 1 8) v1) 1 8) v2) 4 ((zwr (zwr M 2 (M 1 8) v1) 3 ((zwr M 2 (M 1 8) v1) 1 8) v2) 1 8) v3) 5 ((zwr (zwr (zwr M 2 (M 1 8) v1) 3 ((zwr M 2 (M 1 8) v1) 1 8) v2) 4 ((zwr (zwr M 2 (M 1 8) v1) 3 ((zwr M 2 (M 1 8) v1) 1 8) v2) 1 8) v3) 1 8) v4) 1 8) (-1)) 1 8 (zw (((zwr (zwr (zwr (zwr (zwr M 2 (M 1 8) v1) 3 ((zwr M 2 (M 1 8) v1) 1 8) v2) 4 ((zwr (zwr M 2 (M 1 8) v1) 3 ((zwr M 2 (M 1 8) v1) 1 8) v2) 1 8) v3) 5 ((zwr (zwr (zwr M 2 (M 1 8) v1) 3 ((zwr M 2 (M 1 8) v1) 1 8) v2) 4 ((zwr (zwr M 2 (M 1 8) v1) 3 ((zwr M 2 (M 1 8) v1) 1 8) v2) 1 8) v3) 1 8) v4) 6 ((zwr (zwr (zwr (zwr M 2 (M 1 8) v1) 3 ((zwr M 2 (M 1 8) v1) 1 8) v2) 4 ((zwr (zwr M 2 (M 1 8) v1) 3 ((zwr M 2 (M 1 8) v1) 1 8) v2) 1 8) v3) 5 ((zwr (zwr (zwr M 2 (M 1 8) v1) 3 ((zwr M 2 (M 1 8) v1) 1 8) v2) 4 ((zwr (zwr M 2 (M 1 8) v1) 3 ((zwr M 2 (M 1 8) v1) 1 8) v2) 1 8) v3) 1 8) v4) 1 8) (-1)) 1 8) + 1))) else none else none else none else none else none) else (Rt (some (zI (-103))) M)) else (Rt (some (zI (-106))) M) := by
  refine Eq.trans (s_if (P := s0 = 0) 29 f_17_23 (by decide) rfl) (ite_cg (fun h1 => ?_) (fun h1 => ?_))
  · refine Eq.trans (s_aloadn f_17_29 rfl) ?_
    refine Eq.trans (s_getI f_17_30 g_17_36 (by decide) kn_1) ?_
    refine Eq.trans (s_bipush f_17_33) ?_
    refine Eq.trans (s_icmp (P := (M 1 8) < 12) 41 f_17_35 (by decide) rfl) (ite_cg (fun h2 => ?_) (fun h2 => ?_))
    · refine Eq.trans (s_aloadn f_17_41 rfl) ?_
      refine Eq.trans (s_getR f_17_42 g_17_9 (by decide) kn_1 rf_1_0) ?_
      refine Eq.trans (s_aloadn f_17_45 rfl) ?_
      refine Eq.trans (s_getI f_17_46 g_17_36 (by decide) kn_1) ?_
      refine Eq.trans (s_iloadn f_17_49 rfl) ?_
      refine Eq.trans (s_iast f_17_50 kn_2 ln_2) (gd_cg fun h3 => ?_)
      refine Eq.trans (s_aloadn f_17_51 rfl) ?_
      refine Eq.trans (s_getR f_17_52 g_17_15 (by decide) kn_1 rf_1_1) ?_
      refine Eq.trans (s_aloadn f_17_55 rfl) ?_
      refine Eq.trans (s_getI f_17_56 g_17_36 (by decide) kn_1) ?_
      refine Eq.trans (s_iloadn f_17_59 rfl) ?_
      refine Eq.trans (s_iast f_17_60 kn_3 ln_3) (gd_cg fun h4 => ?_)
      refine Eq.trans (s_aloadn f_17_61 rfl) ?_
      refine Eq.trans (s_getR f_17_62 g_17_18 (by decide) kn_1 rf_1_2) ?_
      refine Eq.trans (s_aloadn f_17_65 rfl) ?_
      refine Eq.trans (s_getI f_17_66 g_17_36 (by decide) kn_1) ?_
      refine Eq.trans (s_iloadn f_17_69 rfl) ?_
      refine Eq.trans (s_iast f_17_70 kn_4 ln_4) (gd_cg fun h5 => ?_)
      refine Eq.trans (s_aloadn f_17_71 rfl) ?_
      refine Eq.trans (s_getR f_17_72 g_17_21 (by decide) kn_1 rf_1_3) ?_
      refine Eq.trans (s_aloadn f_17_75 rfl) ?_
      refine Eq.trans (s_getI f_17_76 g_17_36 (by decide) kn_1) ?_
      refine Eq.trans (s_iload f_17_79 rfl) ?_
      refine Eq.trans (s_iast f_17_81 kn_5 ln_5) (gd_cg fun h6 => ?_)
      refine Eq.trans (s_aloadn f_17_82 rfl) ?_
      refine Eq.trans (s_getR f_17_83 g_17_24 (by decide) kn_1 rf_1_4) ?_
      refine Eq.trans (s_aloadn f_17_86 rfl) ?_
      refine Eq.trans (s_getI f_17_87 g_17_36 (by decide) kn_1) ?_
      refine Eq.trans (s_iconst f_17_90) ?_
      refine Eq.trans (s_iast f_17_91 kn_6 ln_6) (gd_cg fun h7 => ?_)
      refine Eq.trans (s_aloadn f_17_92 rfl) ?_
      refine Eq.trans (s_dup f_17_93 rfl) ?_
      refine Eq.trans (s_getI f_17_94 g_17_36 (by decide) kn_1) ?_
      refine Eq.trans (s_iconst f_17_97) ?_
      refine Eq.trans (s_iadd f_17_98) ?_
      refine Eq.trans (s_putI f_17_99 g_17_36 (by decide) kn_1) ?_
      refine Eq.trans (s_aloadn f_17_102 rfl) ?_
      refine Eq.trans (s_getI f_17_103 g_17_36 (by decide) kn_1) ?_
      refine Eq.trans (s_iconst f_17_106) ?_
      refine Eq.trans (s_isub f_17_107) ?_
      exact s_iret f_17_108 t_17
    · refine Eq.trans (s_bipush f_17_38) ?_
      exact s_iret f_17_40 t_17
  · refine Eq.trans (s_bipush f_17_26) ?_
    exact s_iret f_17_28 t_17
theorem en_17 {d : Nat} (v1 v2 v3 v4 : Int) (M : ZM) : E (d + 1) 17 [zR 1, zI v1, zI v2, zI v3, zI v4] M = Q d 17 0 [zR 1, zI v1, zI v2, zI v3, zI v4] [] M := e_in (Nat.le_of_ble_eq_true rfl)
-- DungeonBuilder$Dungeon.liesInMap(IIII)Z
theorem q_18_0 {d : Nat} (v0 v1 v2 v3 : Int) (M : ZM) : Q d 18 0 [zI v0, zI v1, zI v2, zI v3, zU] [] M = if v2 < 2 then (Q d 18 26 [zI v0, zI v1, zI v2, zI v3, zU] [] M) else (if 12 < v2 then (Q d 18 26 [zI v0, zI v1, zI v2, zI v3, zU] [] M) else (if v3 < 2 then (Q d 18 26 [zI v0, zI v1, zI v2, zI v3, zU] [] M) else (if 12 < v3 then (Q d 18 26 [zI v0, zI v1, zI v2, zI v3, zU] [] M) else (if v0 < 0 then (Rt (some (zI 0)) M) else (if (zw (24 - v2)) < v0 then (Rt (some (zI 0)) M) else (if v1 < 0 then (Rt (some (zI 0)) M) else (if (zw (16 - v3)) < v1 then (Rt (some (zI 0)) M) else (Rt (some (zI 1)) M)))))))) := by
  refine Eq.trans (s_iloadn f_18_0 rfl) ?_
  refine Eq.trans (s_iconst f_18_1) ?_
  refine Eq.trans (s_icmp (P := v2 < 2) 26 f_18_2 (by decide) rfl) (ite_cg (fun h1 => ?_) (fun h1 => ?_))
  · rfl
  · refine Eq.trans (s_iloadn f_18_5 rfl) ?_
    refine Eq.trans (s_bipush f_18_6) ?_
    refine Eq.trans (s_icmp (P := 12 < v2) 26 f_18_8 (by decide) rfl) (ite_cg (fun h2 => ?_) (fun h2 => ?_))
    · rfl
    · refine Eq.trans (s_iloadn f_18_11 rfl) ?_
      refine Eq.trans (s_iconst f_18_12) ?_
      refine Eq.trans (s_icmp (P := v3 < 2) 26 f_18_13 (by decide) rfl) (ite_cg (fun h3 => ?_) (fun h3 => ?_))
      · rfl
      · refine Eq.trans (s_iloadn f_18_16 rfl) ?_
        refine Eq.trans (s_bipush f_18_17) ?_
        refine Eq.trans (s_icmp (P := 12 < v3) 26 f_18_19 (by decide) rfl) (ite_cg (fun h4 => ?_) (fun h4 => ?_))
        · rfl
        · refine Eq.trans (s_iconst f_18_22) ?_
          refine Eq.trans (s_goto 27 f_18_23 (by decide)) ?_
          refine Eq.trans (s_istore f_18_27 rfl) ?_
          refine Eq.trans (s_iload f_18_29 rfl) ?_
          refine Eq.trans (s_if (P := 1 = 0) 62 f_18_31 (by decide) rfl) (Eq.trans (if_neg (by decide)) ?_)
          refine Eq.trans (s_iloadn f_18_34 rfl) ?_
          refine Eq.trans (s_if (P := v0 < 0) 62 f_18_35 (by decide) rfl) (ite_cg (fun h5 => ?_) (fun h5 => ?_))
          · refine Eq.trans (s_iconst f_18_62) ?_
            exact s_zret f_18_63 t_18 (by decide)
          · refine Eq.trans (s_iloadn f_18_38 rfl) ?_
            refine Eq.trans (s_bipush f_18_39) ?_
            refine Eq.trans (s_iloadn f_18_41 rfl) ?_
            refine Eq.trans (s_isub f_18_42) ?_
            refine Eq.trans (s_icmp (P := (zw (24 - v2)) < v0) 62 f_18_43 (by decide) rfl) (ite_cg (fun h6 => ?_) (fun h6 => ?_))
            · refine Eq.trans (s_iconst f_18_62) ?_
              exact s_zret f_18_63 t_18 (by decide)
            · refine Eq.trans (s_iloadn f_18_46 rfl) ?_
              refine Eq.trans (s_if (P := v1 < 0) 62 f_18_47 (by decide) rfl) (ite_cg (fun h7 => ?_) (fun h7 => ?_))
              · refine Eq.trans (s_iconst f_18_62) ?_
                exact s_zret f_18_63 t_18 (by decide)
              · refine Eq.trans (s_iloadn f_18_50 rfl) ?_
                refine Eq.trans (s_bipush f_18_51) ?_
                refine Eq.trans (s_iloadn f_18_53 rfl) ?_
                refine Eq.trans (s_isub f_18_54) ?_
                refine Eq.trans (s_icmp (P := (zw (16 - v3)) < v1) 62 f_18_55 (by decide) rfl) (ite_cg (fun h8 => ?_) (fun h8 => ?_))
                · refine Eq.trans (s_iconst f_18_62) ?_
                  exact s_zret f_18_63 t_18 (by decide)
                · refine Eq.trans (s_iconst f_18_58) ?_
                  refine Eq.trans (s_goto 63 f_18_59 (by decide)) ?_
                  exact s_zret f_18_63 t_18 (by decide)
theorem q_18_26 {d : Nat} (v0 v1 v2 v3 : Int) (M : ZM) : Q d 18 26 [zI v0, zI v1, zI v2, zI v3, zU] [] M = Rt (some (zI 0)) M := by
  refine Eq.trans (s_iconst f_18_26) ?_
  refine Eq.trans (s_istore f_18_27 rfl) ?_
  refine Eq.trans (s_iload f_18_29 rfl) ?_
  refine Eq.trans (s_if (P := 0 = 0) 62 f_18_31 (by decide) rfl) (Eq.trans (if_pos (by decide)) ?_)
  refine Eq.trans (s_iconst f_18_62) ?_
  exact s_zret f_18_63 t_18 (by decide)
theorem en_18 {d : Nat} (v0 v1 v2 v3 : Int) (M : ZM) : E (d + 1) 18 [zI v0, zI v1, zI v2, zI v3] M = Q d 18 0 [zI v0, zI v1, zI v2, zI v3, zU] [] M := e_in (Nat.le_of_ble_eq_true rfl)
-- DungeonBuilder$Dungeon.meetsRoom(IIII)Z
theorem q_19_0 {d : Nat} (v1 v2 v3 v4 : Int) (M : ZM) : Q d 19 0 [zR 1, zI v1, zI v2, zI v3, zI v4, zU, zU, zU] [] M = Q d 19 3 [zR 1, zI v1, zI v2, zI v3, zI v4, zI 0, zU, zU] [] M := by
  refine Eq.trans (s_iconst f_19_0) ?_
  refine Eq.trans (s_istore f_19_1 rfl) ?_
  rfl
theorem q_19_3 {d : Nat} (v1 v2 v3 v4 v5 : Int) (z6 z7 : ZV) (M : ZM) : Q d 19 3 [zR 1, zI v1, zI v2, zI v3, zI v4, zI v5, z6, z7] [] M = if (M 1 8) ≤ v5 then (Rt (some (zI 0)) M) else (if 0 ≤ v5 ∧ v5 < 12 then if 0 ≤ v5 ∧ v5 < 12 then if (zw ((M 2 v5) + (M 4 v5))) ≤ v1 then (Q d 19 48 [zR 1, zI v1, zI v2, zI v3, zI v4, zI v5, z6, z7] [] M) else (if 0 ≤ v5 ∧ v5 < 12 then if (zw (v1 + v3)) ≤ (M 2 v5) then (Q d 19 48 [zR 1, zI v1, zI v2, zI v3, zI v4, zI v5, z6, z7] [] M) else (Q d 19 49 [zR 1, zI v1, zI v2, zI v3, zI v4, zI v5, z6, z7] [zI 1] M) else none) else none else none) := by
  refine Eq.trans (s_iload f_19_3 rfl) ?_
  refine Eq.trans (s_aloadn f_19_5 rfl) ?_
  refine Eq.trans (s_getI f_19_6 g_19_36 (by decide) kn_1) ?_
  refine Eq.trans (s_icmp (P := (M 1 8) ≤ v5) 109 f_19_9 (by decide) rfl) (ite_cg (fun h1 => ?_) (fun h1 => ?_))
  · refine Eq.trans (s_iconst f_19_109) ?_
    exact s_zret f_19_110 t_19 (by decide)
  · refine Eq.trans (s_iloadn f_19_12 rfl) ?_
    refine Eq.trans (s_aloadn f_19_13 rfl) ?_
    refine Eq.trans (s_getR f_19_14 g_19_9 (by decide) kn_1 rf_1_0) ?_
    refine Eq.trans (s_iload f_19_17 rfl) ?_
    refine Eq.trans (s_iald f_19_19 kn_2 ln_2) (gd_cg fun h2 => ?_)
    refine Eq.trans (s_aloadn f_19_20 rfl) ?_
    refine Eq.trans (s_getR f_19_21 g_19_18 (by decide) kn_1 rf_1_2) ?_
    refine Eq.trans (s_iload f_19_24 rfl) ?_
    refine Eq.trans (s_iald f_19_26 kn_4 ln_4) (gd_cg fun h3 => ?_)
    refine Eq.trans (s_iadd f_19_27) ?_
    refine Eq.trans (s_icmp (P := (zw ((M 2 v5) + (M 4 v5))) ≤ v1) 48 f_19_28 (by decide) rfl) (ite_cg (fun h4 => ?_) (fun h4 => ?_))
    · rfl
    · refine Eq.trans (s_aloadn f_19_31 rfl) ?_
      refine Eq.trans (s_getR f_19_32 g_19_9 (by decide) kn_1 rf_1_0) ?_
      refine Eq.trans (s_iload f_19_35 rfl) ?_
      refine Eq.trans (s_iald f_19_37 kn_2 ln_2) (gd_cg fun h5 => ?_)
      refine Eq.trans (s_iloadn f_19_38 rfl) ?_
      refine Eq.trans (s_iloadn f_19_39 rfl) ?_
      refine Eq.trans (s_iadd f_19_40) ?_
      refine Eq.trans (s_icmp (P := (zw (v1 + v3)) ≤ (M 2 v5)) 48 f_19_41 (by decide) rfl) (ite_cg (fun h6 => ?_) (fun h6 => ?_))
      · rfl
      · refine Eq.trans (s_iconst f_19_44) ?_
        refine Eq.trans (s_goto 49 f_19_45 (by decide)) ?_
        rfl
theorem q_19_48 {d : Nat} (v1 v2 v3 v4 v5 : Int) (z6 z7 : ZV) (M : ZM) : Q d 19 48 [zR 1, zI v1, zI v2, zI v3, zI v4, zI v5, z6, z7] [] M = Q d 19 49 [zR 1, zI v1, zI v2, zI v3, zI v4, zI v5, z6, z7] [zI 0] M := by
  refine Eq.trans (s_iconst f_19_48) ?_
  rfl
theorem q_19_49 {d : Nat} (v1 v2 v3 v4 v5 s0 : Int) (z6 z7 : ZV) (M : ZM) : Q d 19 49 [zR 1, zI v1, zI v2, zI v3, zI v4, zI v5, z6, z7] [zI s0] M = if 0 ≤ v5 ∧ v5 < 12 then if 0 ≤ v5 ∧ v5 < 12 then if (zw ((M 3 v5) + (M 5 v5))) ≤ v2 then (if s0 = 0 then (Q d 19 3 [zR 1, zI v1, zI v2, zI v3, zI v4, zI (zw (v5 + 1)), zI s0, zI 0] [] M) else (Q d 19 3 [zR 1, zI v1, zI v2, zI v3, zI v4, zI (zw (v5 + 1)), zI s0, zI 0] [] M)) else (if 0 ≤ v5 ∧ v5 < 12 then if (zw (v2 + v4)) ≤ (M 3 v5) then (if s0 = 0 then (Q d 19 3 [zR 1, zI v1, zI v2, zI v3, zI v4, zI (zw (v5 + 1)), zI s0, zI 0] [] M) else (Q d 19 3 [zR 1, zI v1, zI v2, zI v3, zI v4, zI (zw (v5 + 1)), zI s0, zI 0] [] M)) else (if s0 = 0 then (Q d 19 3 [zR 1, zI v1, zI v2, zI v3, zI v4, zI (zw (v5 + 1)), zI s0, zI 1] [] M) else (Rt (some (zI 1)) M)) else none) else none else none := by
  refine Eq.trans (s_istore f_19_49 rfl) ?_
  refine Eq.trans (s_iloadn f_19_51 rfl) ?_
  refine Eq.trans (s_aloadn f_19_52 rfl) ?_
  refine Eq.trans (s_getR f_19_53 g_19_15 (by decide) kn_1 rf_1_1) ?_
  refine Eq.trans (s_iload f_19_56 rfl) ?_
  refine Eq.trans (s_iald f_19_58 kn_3 ln_3) (gd_cg fun h1 => ?_)
  refine Eq.trans (s_aloadn f_19_59 rfl) ?_
  refine Eq.trans (s_getR f_19_60 g_19_21 (by decide) kn_1 rf_1_3) ?_
  refine Eq.trans (s_iload f_19_63 rfl) ?_
  refine Eq.trans (s_iald f_19_65 kn_5 ln_5) (gd_cg fun h2 => ?_)
  refine Eq.trans (s_iadd f_19_66) ?_
  refine Eq.trans (s_icmp (P := (zw ((M 3 v5) + (M 5 v5))) ≤ v2) 88 f_19_67 (by decide) rfl) (ite_cg (fun h3 => ?_) (fun h3 => ?_))
  · refine Eq.trans (s_iconst f_19_88) ?_
    refine Eq.trans (s_istore f_19_89 rfl) ?_
    refine Eq.trans (s_iload f_19_91 rfl) ?_
    refine Eq.trans (s_if (P := s0 = 0) 103 f_19_93 (by decide) rfl) (ite_cg (fun h4 => ?_) (fun h4 => ?_))
    · refine Eq.trans (s_iinc f_19_103 rfl rfl) ?_
      refine Eq.trans (s_goto 3 f_19_106 (by decide)) ?_
      rfl
    · refine Eq.trans (s_iload f_19_96 rfl) ?_
      refine Eq.trans (s_if (P := 0 = 0) 103 f_19_98 (by decide) rfl) (Eq.trans (if_pos (by decide)) ?_)
      refine Eq.trans (s_iinc f_19_103 rfl rfl) ?_
      refine Eq.trans (s_goto 3 f_19_106 (by decide)) ?_
      rfl
  · refine Eq.trans (s_aloadn f_19_70 rfl) ?_
    refine Eq.trans (s_getR f_19_71 g_19_15 (by decide) kn_1 rf_1_1) ?_
    refine Eq.trans (s_iload f_19_74 rfl) ?_
    refine Eq.trans (s_iald f_19_76 kn_3 ln_3) (gd_cg fun h5 => ?_)
    refine Eq.trans (s_iloadn f_19_77 rfl) ?_
    refine Eq.trans (s_iload f_19_78 rfl) ?_
    refine Eq.trans (s_iadd f_19_80) ?_
    refine Eq.trans (s_icmp (P := (zw (v2 + v4)) ≤ (M 3 v5)) 88 f_19_81 (by decide) rfl) (ite_cg (fun h6 => ?_) (fun h6 => ?_))
    · refine Eq.trans (s_iconst f_19_88) ?_
      refine Eq.trans (s_istore f_19_89 rfl) ?_
      refine Eq.trans (s_iload f_19_91 rfl) ?_
      refine Eq.trans (s_if (P := s0 = 0) 103 f_19_93 (by decide) rfl) (ite_cg (fun h7 => ?_) (fun h7 => ?_))
      · refine Eq.trans (s_iinc f_19_103 rfl rfl) ?_
        refine Eq.trans (s_goto 3 f_19_106 (by decide)) ?_
        rfl
      · refine Eq.trans (s_iload f_19_96 rfl) ?_
        refine Eq.trans (s_if (P := 0 = 0) 103 f_19_98 (by decide) rfl) (Eq.trans (if_pos (by decide)) ?_)
        refine Eq.trans (s_iinc f_19_103 rfl rfl) ?_
        refine Eq.trans (s_goto 3 f_19_106 (by decide)) ?_
        rfl
    · refine Eq.trans (s_iconst f_19_84) ?_
      refine Eq.trans (s_goto 89 f_19_85 (by decide)) ?_
      refine Eq.trans (s_istore f_19_89 rfl) ?_
      refine Eq.trans (s_iload f_19_91 rfl) ?_
      refine Eq.trans (s_if (P := s0 = 0) 103 f_19_93 (by decide) rfl) (ite_cg (fun h8 => ?_) (fun h8 => ?_))
      · refine Eq.trans (s_iinc f_19_103 rfl rfl) ?_
        refine Eq.trans (s_goto 3 f_19_106 (by decide)) ?_
        rfl
      · refine Eq.trans (s_iload f_19_96 rfl) ?_
        refine Eq.trans (s_if (P := 1 = 0) 103 f_19_98 (by decide) rfl) (Eq.trans (if_neg (by decide)) ?_)
        refine Eq.trans (s_iconst f_19_101) ?_
        exact s_zret f_19_102 t_19 (by decide)
theorem en_19 {d : Nat} (v1 v2 v3 v4 : Int) (M : ZM) : E (d + 1) 19 [zR 1, zI v1, zI v2, zI v3, zI v4] M = Q d 19 0 [zR 1, zI v1, zI v2, zI v3, zI v4, zU, zU, zU] [] M := e_in (Nat.le_of_ble_eq_true rfl)
-- DungeonBuilder$Dungeon.insertCorridor(II)I
theorem q_20_0 {d : Nat} (v1 v2 : Int) (M : ZM) : Q d 20 0 [zR 1, zI v1, zI v2] [] M = Cb (E d 15 [zR 1, zI v1] M) (fun v h => zrun (zevl d) 20 5 [zR 1, zI v1, zI v2] (v.toList ++ []) h) := by
  refine Eq.trans (s_aloadn f_20_0 rfl) ?_
  refine Eq.trans (s_iloadn f_20_1 rfl) ?_
  exact s_call [zR 1, zI v1] [] f_20_2 rfl c_20_63 rfl rfl (Nat.le_of_ble_eq_true rfl) (by show (zkn SH 1 == zown 15) = true; rw [show zkn SH 1 = 1 from kn_1]; rfl)
theorem q_20_5 {d : Nat} (v1 v2 s0 : Int) (M : ZM) : Q d 20 5 [zR 1, zI v1, zI v2] [zI s0] M = if s0 = 0 then (Rt (some (zI (-101))) M) else (Cb (E d 15 [zR 1, zI v2] M) (fun v h => zrun (zevl d) 20 13 [zR 1, zI v1, zI v2] (v.toList ++ []) h)) := by
  refine Eq.trans (s_if (P := s0 = 0) 16 f_20_5 (by decide) rfl) (ite_cg (fun h1 => ?_) (fun h1 => ?_))
  · refine Eq.trans (s_bipush f_20_16) ?_
    exact s_iret f_20_18 t_20
  · refine Eq.trans (s_aloadn f_20_8 rfl) ?_
    refine Eq.trans (s_iloadn f_20_9 rfl) ?_
    exact s_call [zR 1, zI v2] [] f_20_10 rfl c_20_63 rfl rfl (Nat.le_of_ble_eq_true rfl) (by show (zkn SH 1 == zown 15) = true; rw [show zkn SH 1 = 1 from kn_1]; rfl)
theorem q_20_13 {d : Nat} (v1 v2 s0 : Int) (M : ZM) : Q d 20 13 [zR 1, zI v1, zI v2] [zI s0] M = if s0 ≠ 0 then (if v1 ≠ v2 then (Cb (E d 30 [zR 1, zI v1, zI v2] M) (fun v h => zrun (zevl d) 20 33 [zR 1, zI v1, zI v2] (v.toList ++ []) h)) else (Rt (some (zI (-102))) M)) else (Rt (some (zI (-101))) M) := by
  refine Eq.trans (s_if (P := s0 ≠ 0) 19 f_20_13 (by decide) rfl) (ite_cg (fun h1 => ?_) (fun h1 => ?_))
  · refine Eq.trans (s_iloadn f_20_19 rfl) ?_
    refine Eq.trans (s_iloadn f_20_20 rfl) ?_
    refine Eq.trans (s_icmp (P := v1 ≠ v2) 27 f_20_21 (by decide) rfl) (ite_cg (fun h2 => ?_) (fun h2 => ?_))
    · refine Eq.trans (s_aloadn f_20_27 rfl) ?_
      refine Eq.trans (s_iloadn f_20_28 rfl) ?_
      refine Eq.trans (s_iloadn f_20_29 rfl) ?_
      exact s_call [zR 1, zI v1, zI v2] [] f_20_30 rfl c_20_67 rfl rfl (Nat.le_of_ble_eq_true rfl) (by show (zkn SH 1 == zown 30) = true; rw [show zkn SH 1 = 1 from kn_1]; rfl)
    · refine Eq.trans (s_bipush f_20_24) ?_
      exact s_iret f_20_26 t_20
  · refine Eq.trans (s_bipush f_20_16) ?_
    exact s_iret f_20_18 t_20
theorem q_20_33 {d : Nat} (v1 v2 s0 : Int) (M : ZM) : Q d 20 33 [zR 1, zI v1, zI v2] [zI s0] M = if s0 = (-1) then (if (M 1 9) < 20 then (if 0 ≤ (M 1 9) ∧ (M 1 9) < 20 then if 0 ≤ ((zwr M 7 (M 1 9) (if v2 < v1 then v2 else v1)) 1 9) ∧ ((zwr M 7 (M 1 9) (if v2 < v1 then v2 else v1)) 1 9) < 20 then if 0 ≤ ((zwr (zwr M 7 (M 1 9) (if v2 < v1 then v2 else v1)) 8 ((zwr M 7 (M 1 9) (if v2 < v1 then v2 else v1)) 1 9) (if v1 < v2 then v2 else v1)) 1 9) ∧ ((zwr (zwr M 7 (M 1 9) (if v2 < v1 then v2 else v1)) 8 ((zwr M 7 (M 1 9) (if v2 < v1 then v2 else v1)) 1 9) (if v1 < v2 then v2 else v1)) 1 9) < 20 then Rt (some (zI (zw (((zwr (zwr (zwr (zwr M 7 (M 1 9) (if v2 < v1 then v2 else v1)) 8 ((zwr M 7 (M 1 9) (if v2 < v1 then v2 else v1)) 1 9) (if v1 < v2 then v2 else v1)) 9 ((zwr (zwr M 7 (M 1 9) (if v2 < v1 then v2 else v1)) 8 ((zwr M 7 (M 1 9) (if v2 < v1 then v2 else v1)) 1 9) (if v1 < v2 then v2 else v1)) 1 9) (-1)) 1 9 (zw (((zwr (zwr (zwr M 7 (M 1 9) (if v2 < v1 then v2 else v1)) 8 ((zwr M 7 (M 1 9) (if v2 < v1 then v2 else v1)) 1 9) (if v1 < v2 then v2 else v1)) 9 ((zwr (zwr M 7 (M 1 9) (if v2 < v1 then v2 else v1)) 8 ((zwr M 7 (M 1 9) (if v2 < v1 then v2 else v1)) 1 9) (if v1 < v2 then v2 else v1)) 1 9) (-1)) 1 9) + 1))) 1 9) - 1)))) (zwr (zwr (zwr (zwr M 7 (M 1 9) (if v2 < v1 then v2 else v1)) 8 ((zwr M 7 (M 1 9) (if v2 < v1 then v2 else v1)) 1 9) (if v1 < v2 then v2 else v1)) 9 ((zwr (zwr M 7 (M 1 9) (if v2 < v1 then v2 else v1)) 8 ((zwr M 7 (M 1 9) (if v2 < v1 then v2 else v1)) 1 9) (if v1 < v2 then v2 else v1)) 1 9) (-1)) 1 9 (zw (((zwr (zwr (zwr M 7 (M 1 9) (if v2 < v1 then v2 else v1)) 8 ((zwr M 7 (M 1 9) (if v2 < v1 then v2 else v1)) 1 9) (if v1 < v2 then v2 else v1)) 9 ((zwr (zwr M 7 (M 1 9) (if v2 < v1 then v2 else v1)) 8 ((zwr M 7 (M 1 9) (if v2 < v1 then v2 else v1)) 1 9) (if v1 < v2 then v2 else v1)) 1 9) (-1)) 1 9) + 1))) else none else none else none) else (Rt (some (zI (-103))) M)) else (Rt (some (zI (-106))) M) := by
  refine Eq.trans (s_iconst f_20_33) ?_
  refine Eq.trans (s_icmp (P := s0 = (-1)) 40 f_20_34 (by decide) rfl) (ite_cg (fun h1 => ?_) (fun h1 => ?_))
  · refine Eq.trans (s_aloadn f_20_40 rfl) ?_
    refine Eq.trans (s_getI f_20_41 g_20_40 (by decide) kn_1) ?_
    refine Eq.trans (s_bipush f_20_44) ?_
    refine Eq.trans (s_icmp (P := (M 1 9) < 20) 52 f_20_46 (by decide) rfl) (ite_cg (fun h2 => ?_) (fun h2 => ?_))
    · refine Eq.trans (s_aloadn f_20_52 rfl) ?_
      refine Eq.trans (s_getR f_20_53 g_20_27 (by decide) kn_1 rf_1_5) ?_
      refine Eq.trans (s_aloadn f_20_56 rfl) ?_
      refine Eq.trans (s_getI f_20_57 g_20_40 (by decide) kn_1) ?_
      refine Eq.trans (s_iloadn f_20_60 rfl) ?_
      refine Eq.trans (s_iloadn f_20_61 rfl) ?_
      refine Eq.trans (s_min f_20_62 m_20_71 (Nat.le_of_ble_eq_true rfl)) ?_
      refine Eq.trans (s_iast f_20_65 kn_7 ln_7) (gd_cg fun h3 => ?_)
      refine Eq.trans (s_aloadn f_20_66 rfl) ?_
      refine Eq.trans (s_getR f_20_67 g_20_30 (by decide) kn_1 rf_1_6) ?_
      refine Eq.trans (s_aloadn f_20_70 rfl) ?_
      refine Eq.trans (s_getI f_20_71 g_20_40 (by decide) kn_1) ?_
      refine Eq.trans (s_iloadn f_20_74 rfl) ?_
      refine Eq.trans (s_iloadn f_20_75 rfl) ?_
      refine Eq.trans (s_max f_20_76 m_20_76 (Nat.le_of_ble_eq_true rfl)) ?_
      refine Eq.trans (s_iast f_20_79 kn_8 ln_8) (gd_cg fun h4 => ?_)
      refine Eq.trans (s_aloadn f_20_80 rfl) ?_
      refine Eq.trans (s_getR f_20_81 g_20_33 (by decide) kn_1 rf_1_7) ?_
      refine Eq.trans (s_aloadn f_20_84 rfl) ?_
      refine Eq.trans (s_getI f_20_85 g_20_40 (by decide) kn_1) ?_
      refine Eq.trans (s_iconst f_20_88) ?_
      refine Eq.trans (s_iast f_20_89 kn_9 ln_9) (gd_cg fun h5 => ?_)
      refine Eq.trans (s_aloadn f_20_90 rfl) ?_
      refine Eq.trans (s_dup f_20_91 rfl) ?_
      refine Eq.trans (s_getI f_20_92 g_20_40 (by decide) kn_1) ?_
      refine Eq.trans (s_iconst f_20_95) ?_
      refine Eq.trans (s_iadd f_20_96) ?_
      refine Eq.trans (s_putI f_20_97 g_20_40 (by decide) kn_1) ?_
      refine Eq.trans (s_aloadn f_20_100 rfl) ?_
      refine Eq.trans (s_getI f_20_101 g_20_40 (by decide) kn_1) ?_
      refine Eq.trans (s_iconst f_20_104) ?_
      refine Eq.trans (s_isub f_20_105) ?_
      exact s_iret f_20_106 t_20
    · refine Eq.trans (s_bipush f_20_49) ?_
      exact s_iret f_20_51 t_20
  · refine Eq.trans (s_bipush f_20_37) ?_
    exact s_iret f_20_39 t_20
theorem en_20 {d : Nat} (v1 v2 : Int) (M : ZM) : E (d + 1) 20 [zR 1, zI v1, zI v2] M = Q d 20 0 [zR 1, zI v1, zI v2] [] M := e_in (Nat.le_of_ble_eq_true rfl)
-- DungeonBuilder$Dungeon.insertLoop()I
theorem q_21_0 {d : Nat} (M : ZM) : Q d 21 0 [zR 1, zU, zU, zU, zU, zU] [] M = Q d 21 10 [zR 1, zI (-1), zI (-1), zI 40, zI 0, zU] [] M := by
  refine Eq.trans (s_iconst f_21_0) ?_
  refine Eq.trans (s_istoren f_21_1 rfl) ?_
  refine Eq.trans (s_iconst f_21_2) ?_
  refine Eq.trans (s_istoren f_21_3 rfl) ?_
  refine Eq.trans (s_bipush f_21_4) ?_
  refine Eq.trans (s_istoren f_21_6 rfl) ?_
  refine Eq.trans (s_iconst f_21_7) ?_
  refine Eq.trans (s_istore f_21_8 rfl) ?_
  rfl
theorem q_21_10 {d : Nat} (v1 v2 v3 v4 : Int) (z5 : ZV) (M : ZM) : Q d 21 10 [zR 1, zI v1, zI v2, zI v3, zI v4, z5] [] M = if (M 1 8) ≤ v4 then (if v1 ≠ (-1) then (Cb (E d 20 [zR 1, zI v1, zI v2] M) (fun v h => zrun (zevl d) 21 101 [zR 1, zI v1, zI v2, zI v3, zI v4, z5] (v.toList ++ []) h)) else (Q d 21 101 [zR 1, zI v1, zI v2, zI v3, zI v4, z5] [zI (-104)] M)) else (Q d 21 25 [zR 1, zI v1, zI v2, zI v3, zI v4, zI (zw (v4 + 1))] [] M) := by
  refine Eq.trans (s_iload f_21_10 rfl) ?_
  refine Eq.trans (s_aloadn f_21_12 rfl) ?_
  refine Eq.trans (s_getI f_21_13 g_21_36 (by decide) kn_1) ?_
  refine Eq.trans (s_icmp (P := (M 1 8) ≤ v4) 85 f_21_16 (by decide) rfl) (ite_cg (fun h1 => ?_) (fun h1 => ?_))
  · refine Eq.trans (s_iloadn f_21_85 rfl) ?_
    refine Eq.trans (s_iconst f_21_86) ?_
    refine Eq.trans (s_icmp (P := v1 ≠ (-1)) 95 f_21_87 (by decide) rfl) (ite_cg (fun h2 => ?_) (fun h2 => ?_))
    · refine Eq.trans (s_aloadn f_21_95 rfl) ?_
      refine Eq.trans (s_iloadn f_21_96 rfl) ?_
      refine Eq.trans (s_iloadn f_21_97 rfl) ?_
      exact s_call [zR 1, zI v1, zI v2] [] f_21_98 rfl c_21_82 rfl rfl (Nat.le_of_ble_eq_true rfl) (by show (zkn SH 1 == zown 20) = true; rw [show zkn SH 1 = 1 from kn_1]; rfl)
    · refine Eq.trans (s_bipush f_21_90) ?_
      refine Eq.trans (s_goto 101 f_21_92 (by decide)) ?_
      rfl
  · refine Eq.trans (s_iload f_21_19 rfl) ?_
    refine Eq.trans (s_iconst f_21_21) ?_
    refine Eq.trans (s_iadd f_21_22) ?_
    refine Eq.trans (s_istore f_21_23 rfl) ?_
    rfl
theorem q_21_25 {d : Nat} (v1 v2 v3 v4 v5 : Int) (M : ZM) : Q d 21 25 [zR 1, zI v1, zI v2, zI v3, zI v4, zI v5] [] M = if (M 1 8) ≤ v5 then (Q d 21 10 [zR 1, zI v1, zI v2, zI v3, zI (zw (v4 + 1)), zI v5] [] M) else (Cb (E d 34 [zR 1, zI v4, zI v5] M) (fun v h => zrun (zevl d) 21 42 [zR 1, zI v1, zI v2, zI v3, zI v4, zI v5] (v.toList ++ []) h)) := by
  refine Eq.trans (s_iload f_21_25 rfl) ?_
  refine Eq.trans (s_aloadn f_21_27 rfl) ?_
  refine Eq.trans (s_getI f_21_28 g_21_36 (by decide) kn_1) ?_
  refine Eq.trans (s_icmp (P := (M 1 8) ≤ v5) 79 f_21_31 (by decide) rfl) (ite_cg (fun h1 => ?_) (fun h1 => ?_))
  · refine Eq.trans (s_iinc f_21_79 rfl rfl) ?_
    refine Eq.trans (s_goto 10 f_21_82 (by decide)) ?_
    rfl
  · refine Eq.trans (s_aloadn f_21_34 rfl) ?_
    refine Eq.trans (s_iload f_21_35 rfl) ?_
    refine Eq.trans (s_iload f_21_37 rfl) ?_
    exact s_call [zR 1, zI v4, zI v5] [] f_21_39 rfl c_21_79 rfl rfl (Nat.le_of_ble_eq_true rfl) (by show (zkn SH 1 == zown 34) = true; rw [show zkn SH 1 = 1 from kn_1]; rfl)
theorem q_21_42 {d : Nat} (v1 v2 v3 v4 v5 s0 : Int) (M : ZM) : Q d 21 42 [zR 1, zI v1, zI v2, zI v3, zI v4, zI v5] [zI s0] M = if v3 ≤ s0 then (Q d 21 25 [zR 1, zI v1, zI v2, zI v3, zI v4, zI (zw (v5 + 1))] [] M) else (Cb (E d 30 [zR 1, zI v4, zI v5] M) (fun v h => zrun (zevl d) 21 54 [zR 1, zI v1, zI v2, zI v3, zI v4, zI v5] (v.toList ++ []) h)) := by
  refine Eq.trans (s_iloadn f_21_42 rfl) ?_
  refine Eq.trans (s_icmp (P := v3 ≤ s0) 73 f_21_43 (by decide) rfl) (ite_cg (fun h1 => ?_) (fun h1 => ?_))
  · refine Eq.trans (s_iinc f_21_73 rfl rfl) ?_
    refine Eq.trans (s_goto 25 f_21_76 (by decide)) ?_
    rfl
  · refine Eq.trans (s_aloadn f_21_46 rfl) ?_
    refine Eq.trans (s_iload f_21_47 rfl) ?_
    refine Eq.trans (s_iload f_21_49 rfl) ?_
    exact s_call [zR 1, zI v4, zI v5] [] f_21_51 rfl c_21_67 rfl rfl (Nat.le_of_ble_eq_true rfl) (by show (zkn SH 1 == zown 30) = true; rw [show zkn SH 1 = 1 from kn_1]; rfl)
theorem q_21_54 {d : Nat} (v1 v2 v3 v4 v5 s0 : Int) (M : ZM) : Q d 21 54 [zR 1, zI v1, zI v2, zI v3, zI v4, zI v5] [zI s0] M = if s0 ≠ (-1) then (Q d 21 25 [zR 1, zI v1, zI v2, zI v3, zI v4, zI (zw (v5 + 1))] [] M) else (Cb (E d 34 [zR 1, zI v4, zI v5] M) (fun v h => zrun (zevl d) 21 72 [zR 1, zI v4, zI v5, zI v3, zI v4, zI v5] (v.toList ++ []) h)) := by
  refine Eq.trans (s_iconst f_21_54) ?_
  refine Eq.trans (s_icmp (P := s0 ≠ (-1)) 73 f_21_55 (by decide) rfl) (ite_cg (fun h1 => ?_) (fun h1 => ?_))
  · refine Eq.trans (s_iinc f_21_73 rfl rfl) ?_
    refine Eq.trans (s_goto 25 f_21_76 (by decide)) ?_
    rfl
  · refine Eq.trans (s_iload f_21_58 rfl) ?_
    refine Eq.trans (s_istoren f_21_60 rfl) ?_
    refine Eq.trans (s_iload f_21_61 rfl) ?_
    refine Eq.trans (s_istoren f_21_63 rfl) ?_
    refine Eq.trans (s_aloadn f_21_64 rfl) ?_
    refine Eq.trans (s_iload f_21_65 rfl) ?_
    refine Eq.trans (s_iload f_21_67 rfl) ?_
    exact s_call [zR 1, zI v4, zI v5] [] f_21_69 rfl c_21_79 rfl rfl (Nat.le_of_ble_eq_true rfl) (by show (zkn SH 1 == zown 34) = true; rw [show zkn SH 1 = 1 from kn_1]; rfl)
theorem q_21_72 {d : Nat} (v1 v2 v3 v4 v5 s0 : Int) (M : ZM) : Q d 21 72 [zR 1, zI v1, zI v2, zI v3, zI v4, zI v5] [zI s0] M = Q d 21 25 [zR 1, zI v1, zI v2, zI s0, zI v4, zI (zw (v5 + 1))] [] M := by
  refine Eq.trans (s_istoren f_21_72 rfl) ?_
  refine Eq.trans (s_iinc f_21_73 rfl rfl) ?_
  refine Eq.trans (s_goto 25 f_21_76 (by decide)) ?_
  rfl
theorem q_21_101 {d : Nat} (v1 v2 v3 v4 s0 : Int) (z5 : ZV) (M : ZM) : Q d 21 101 [zR 1, zI v1, zI v2, zI v3, zI v4, z5] [zI s0] M = Rt (some (zI s0)) M := by
  exact s_iret f_21_101 t_21
theorem en_21 {d : Nat} (M : ZM) : E (d + 1) 21 [zR 1] M = Q d 21 0 [zR 1, zU, zU, zU, zU, zU] [] M := e_in (Nat.le_of_ble_eq_true rfl)
-- DungeonBuilder$Dungeon.changeLock(II)I
theorem q_22_0 {d : Nat} (v1 v2 : Int) (M : ZM) : Q d 22 0 [zR 1, zI v1, zI v2, zU] [] M = Cb (E d 16 [zR 1, zI v1] M) (fun v h => zrun (zevl d) 22 5 [zR 1, zI v1, zI v2, zU] (v.toList ++ []) h) := by
  refine Eq.trans (s_aloadn f_22_0 rfl) ?_
  refine Eq.trans (s_iloadn f_22_1 rfl) ?_
  exact s_call [zR 1, zI v1] [] f_22_2 rfl c_22_85 rfl rfl (Nat.le_of_ble_eq_true rfl) (by show (zkn SH 1 == zown 16) = true; rw [show zkn SH 1 = 1 from kn_1]; rfl)
theorem q_22_5 {d : Nat} (v1 v2 s0 : Int) (M : ZM) : Q d 22 5 [zR 1, zI v1, zI v2, zU] [zI s0] M = if s0 ≠ 0 then (Cb (E d 148 [zI v2] M) (fun v h => zrun (zevl d) 22 15 [zR 1, zI v1, zI v2, zU] (v.toList ++ []) h)) else (Rt (some (zI (-101))) M) := by
  refine Eq.trans (s_if (P := s0 ≠ 0) 11 f_22_5 (by decide) rfl) (ite_cg (fun h1 => ?_) (fun h1 => ?_))
  · refine Eq.trans (s_iloadn f_22_11 rfl) ?_
    exact s_call [zI v2] [] f_22_12 rfl c_22_88 rfl rfl (Nat.le_of_ble_eq_true rfl) rfl
  · refine Eq.trans (s_bipush f_22_8) ?_
    exact s_iret f_22_10 t_22
theorem q_22_15 {d : Nat} (v1 v2 s0 : Int) (M : ZM) : Q d 22 15 [zR 1, zI v1, zI v2, zU] [zI s0] M = if s0 ≠ 0 then (if 0 ≤ v1 ∧ v1 < 20 then if 0 ≤ v1 ∧ v1 < 20 then Cb (E d 147 [zI (M 9 v1)] (zwr M 9 v1 v2)) (fun v h => zrun (zevl d) 22 39 [zR 1, zI v1, zI v2, zI (M 9 v1)] (v.toList ++ []) h) else none else none) else (Rt (some (zI (-102))) M) := by
  refine Eq.trans (s_if (P := s0 ≠ 0) 21 f_22_15 (by decide) rfl) (ite_cg (fun h1 => ?_) (fun h1 => ?_))
  · refine Eq.trans (s_aloadn f_22_21 rfl) ?_
    refine Eq.trans (s_getR f_22_22 g_22_33 (by decide) kn_1 rf_1_7) ?_
    refine Eq.trans (s_iloadn f_22_25 rfl) ?_
    refine Eq.trans (s_iald f_22_26 kn_9 ln_9) (gd_cg fun h2 => ?_)
    refine Eq.trans (s_istoren f_22_27 rfl) ?_
    refine Eq.trans (s_aloadn f_22_28 rfl) ?_
    refine Eq.trans (s_getR f_22_29 g_22_33 (by decide) kn_1 rf_1_7) ?_
    refine Eq.trans (s_iloadn f_22_32 rfl) ?_
    refine Eq.trans (s_iloadn f_22_33 rfl) ?_
    refine Eq.trans (s_iast f_22_34 kn_9 ln_9) (gd_cg fun h3 => ?_)
    refine Eq.trans (s_iloadn f_22_35 rfl) ?_
    exact s_call [zI (M 9 v1)] [] f_22_36 rfl c_22_91 rfl rfl (Nat.le_of_ble_eq_true rfl) rfl
  · refine Eq.trans (s_bipush f_22_18) ?_
    exact s_iret f_22_20 t_22
theorem q_22_39 {d : Nat} (v1 v2 v3 s0 : Int) (M : ZM) : Q d 22 39 [zR 1, zI v1, zI v2, zI v3] [zI s0] M = Rt (some (zI s0)) M := by
  exact s_iret f_22_39 t_22
theorem en_22 {d : Nat} (v1 v2 : Int) (M : ZM) : E (d + 1) 22 [zR 1, zI v1, zI v2] M = Q d 22 0 [zR 1, zI v1, zI v2, zU] [] M := e_in (Nat.le_of_ble_eq_true rfl)
-- DungeonBuilder$Dungeon.changeKey(II)I
theorem q_23_0 {d : Nat} (v1 v2 : Int) (M : ZM) : Q d 23 0 [zR 1, zI v1, zI v2, zU] [] M = Cb (E d 15 [zR 1, zI v1] M) (fun v h => zrun (zevl d) 23 5 [zR 1, zI v1, zI v2, zU] (v.toList ++ []) h) := by
  refine Eq.trans (s_aloadn f_23_0 rfl) ?_
  refine Eq.trans (s_iloadn f_23_1 rfl) ?_
  exact s_call [zR 1, zI v1] [] f_23_2 rfl c_23_63 rfl rfl (Nat.le_of_ble_eq_true rfl) (by show (zkn SH 1 == zown 15) = true; rw [show zkn SH 1 = 1 from kn_1]; rfl)
theorem q_23_5 {d : Nat} (v1 v2 s0 : Int) (M : ZM) : Q d 23 5 [zR 1, zI v1, zI v2, zU] [zI s0] M = if s0 ≠ 0 then (Cb (E d 148 [zI v2] M) (fun v h => zrun (zevl d) 23 15 [zR 1, zI v1, zI v2, zU] (v.toList ++ []) h)) else (Rt (some (zI (-101))) M) := by
  refine Eq.trans (s_if (P := s0 ≠ 0) 11 f_23_5 (by decide) rfl) (ite_cg (fun h1 => ?_) (fun h1 => ?_))
  · refine Eq.trans (s_iloadn f_23_11 rfl) ?_
    exact s_call [zI v2] [] f_23_12 rfl c_23_88 rfl rfl (Nat.le_of_ble_eq_true rfl) rfl
  · refine Eq.trans (s_bipush f_23_8) ?_
    exact s_iret f_23_10 t_23
theorem q_23_15 {d : Nat} (v1 v2 s0 : Int) (M : ZM) : Q d 23 15 [zR 1, zI v1, zI v2, zU] [zI s0] M = if s0 ≠ 0 then (if 0 ≤ v1 ∧ v1 < 12 then if 0 ≤ v1 ∧ v1 < 12 then Cb (E d 147 [zI (M 6 v1)] (zwr M 6 v1 v2)) (fun v h => zrun (zevl d) 23 39 [zR 1, zI v1, zI v2, zI (M 6 v1)] (v.toList ++ []) h) else none else none) else (Rt (some (zI (-102))) M) := by
  refine Eq.trans (s_if (P := s0 ≠ 0) 21 f_23_15 (by decide) rfl) (ite_cg (fun h1 => ?_) (fun h1 => ?_))
  · refine Eq.trans (s_aloadn f_23_21 rfl) ?_
    refine Eq.trans (s_getR f_23_22 g_23_24 (by decide) kn_1 rf_1_4) ?_
    refine Eq.trans (s_iloadn f_23_25 rfl) ?_
    refine Eq.trans (s_iald f_23_26 kn_6 ln_6) (gd_cg fun h2 => ?_)
    refine Eq.trans (s_istoren f_23_27 rfl) ?_
    refine Eq.trans (s_aloadn f_23_28 rfl) ?_
    refine Eq.trans (s_getR f_23_29 g_23_24 (by decide) kn_1 rf_1_4) ?_
    refine Eq.trans (s_iloadn f_23_32 rfl) ?_
    refine Eq.trans (s_iloadn f_23_33 rfl) ?_
    refine Eq.trans (s_iast f_23_34 kn_6 ln_6) (gd_cg fun h3 => ?_)
    refine Eq.trans (s_iloadn f_23_35 rfl) ?_
    exact s_call [zI (M 6 v1)] [] f_23_36 rfl c_23_91 rfl rfl (Nat.le_of_ble_eq_true rfl) rfl
  · refine Eq.trans (s_bipush f_23_18) ?_
    exact s_iret f_23_20 t_23
theorem q_23_39 {d : Nat} (v1 v2 v3 s0 : Int) (M : ZM) : Q d 23 39 [zR 1, zI v1, zI v2, zI v3] [zI s0] M = Rt (some (zI s0)) M := by
  exact s_iret f_23_39 t_23
theorem en_23 {d : Nat} (v1 v2 : Int) (M : ZM) : E (d + 1) 23 [zR 1, zI v1, zI v2] M = Q d 23 0 [zR 1, zI v1, zI v2, zU] [] M := e_in (Nat.le_of_ble_eq_true rfl)
-- DungeonBuilder$Dungeon.moveEntrance(I)I
theorem q_24_0 {d : Nat} (v1 : Int) (M : ZM) : Q d 24 0 [zR 1, zI v1, zU] [] M = Cb (E d 15 [zR 1, zI v1] M) (fun v h => zrun (zevl d) 24 5 [zR 1, zI v1, zU] (v.toList ++ []) h) := by
  refine Eq.trans (s_aloadn f_24_0 rfl) ?_
  refine Eq.trans (s_iloadn f_24_1 rfl) ?_
  exact s_call [zR 1, zI v1] [] f_24_2 rfl c_24_63 rfl rfl (Nat.le_of_ble_eq_true rfl) (by show (zkn SH 1 == zown 15) = true; rw [show zkn SH 1 = 1 from kn_1]; rfl)
theorem q_24_5 {d : Nat} (v1 s0 : Int) (M : ZM) : Q d 24 5 [zR 1, zI v1, zU] [zI s0] M = if s0 ≠ 0 then (Rt (some (zI (M 1 10))) (zwr M 1 10 v1)) else (Rt (some (zI (-101))) M) := by
  refine Eq.trans (s_if (P := s0 ≠ 0) 11 f_24_5 (by decide) rfl) (ite_cg (fun h1 => ?_) (fun h1 => ?_))
  · refine Eq.trans (s_aloadn f_24_11 rfl) ?_
    refine Eq.trans (s_getI f_24_12 g_24_43 (by decide) kn_1) ?_
    refine Eq.trans (s_istoren f_24_15 rfl) ?_
    refine Eq.trans (s_aloadn f_24_16 rfl) ?_
    refine Eq.trans (s_iloadn f_24_17 rfl) ?_
    refine Eq.trans (s_putI f_24_18 g_24_43 (by decide) kn_1) ?_
    refine Eq.trans (s_iloadn f_24_21 rfl) ?_
    exact s_iret f_24_22 t_24
  · refine Eq.trans (s_bipush f_24_8) ?_
    exact s_iret f_24_10 t_24
theorem en_24 {d : Nat} (v1 : Int) (M : ZM) : E (d + 1) 24 [zR 1, zI v1] M = Q d 24 0 [zR 1, zI v1, zU] [] M := e_in (Nat.le_of_ble_eq_true rfl)
-- DungeonBuilder$Dungeon.dropRoom(I)I
theorem q_25_0 {d : Nat} (v1 : Int) (M : ZM) : Q d 25 0 [zR 1, zI v1, zU] [] M = Cb (E d 15 [zR 1, zI v1] M) (fun v h => zrun (zevl d) 25 5 [zR 1, zI v1, zU] (v.toList ++ []) h) := by
  refine Eq.trans (s_aloadn f_25_0 rfl) ?_
  refine Eq.trans (s_iloadn f_25_1 rfl) ?_
  exact s_call [zR 1, zI v1] [] f_25_2 rfl c_25_63 rfl rfl (Nat.le_of_ble_eq_true rfl) (by show (zkn SH 1 == zown 15) = true; rw [show zkn SH 1 = 1 from kn_1]; rfl)
theorem q_25_5 {d : Nat} (v1 s0 : Int) (M : ZM) : Q d 25 5 [zR 1, zI v1, zU] [zI s0] M = if s0 ≠ 0 then (Cb (E d 26 [zR 1, zI v1] M) (fun v h => zrun (zevl d) 25 16 [zR 1, zI v1, zU] (v.toList ++ []) h)) else (Rt (some (zI (-101))) M) := by
  refine Eq.trans (s_if (P := s0 ≠ 0) 11 f_25_5 (by decide) rfl) (ite_cg (fun h1 => ?_) (fun h1 => ?_))
  · refine Eq.trans (s_aloadn f_25_11 rfl) ?_
    refine Eq.trans (s_iloadn f_25_12 rfl) ?_
    exact s_call [zR 1, zI v1] [] f_25_13 rfl c_25_95 rfl rfl (Nat.le_of_ble_eq_true rfl) (by show (zkn SH 1 == zown 26) = true; rw [show zkn SH 1 = 1 from kn_1]; rfl)
  · refine Eq.trans (s_bipush f_25_8) ?_
    exact s_iret f_25_10 t_25
theorem q_25_16 {d : Nat} (v1 : Int) (M : ZM) : Q d 25 16 [zR 1, zI v1, zU] [] M = Q d 25 20 [zR 1, zI v1, zI (zw (v1 + 1))] [] M := by
  refine Eq.trans (s_iloadn f_25_16 rfl) ?_
  refine Eq.trans (s_iconst f_25_17) ?_
  refine Eq.trans (s_iadd f_25_18) ?_
  refine Eq.trans (s_istoren f_25_19 rfl) ?_
  rfl
theorem q_25_20 {d : Nat} (v1 v2 : Int) (M : ZM) : Q d 25 20 [zR 1, zI v1, zI v2] [] M = if (M 1 8) ≤ v2 then (Q d 25 55 [zR 1, zI v1, zI 0] [] (zwr M 1 8 (zw ((M 1 8) - 1)))) else (Cb (E d 12 [zR 1, zI (zw (v2 - 1)), zR 1, zI v2] M) (fun v h => zrun (zevl d) 25 37 [zR 1, zI v1, zI v2] (v.toList ++ []) h)) := by
  refine Eq.trans (s_iloadn f_25_20 rfl) ?_
  refine Eq.trans (s_aloadn f_25_21 rfl) ?_
  refine Eq.trans (s_getI f_25_22 g_25_36 (by decide) kn_1) ?_
  refine Eq.trans (s_icmp (P := (M 1 8) ≤ v2) 43 f_25_25 (by decide) rfl) (ite_cg (fun h1 => ?_) (fun h1 => ?_))
  · refine Eq.trans (s_aloadn f_25_43 rfl) ?_
    refine Eq.trans (s_dup f_25_44 rfl) ?_
    refine Eq.trans (s_getI f_25_45 g_25_36 (by decide) kn_1) ?_
    refine Eq.trans (s_iconst f_25_48) ?_
    refine Eq.trans (s_isub f_25_49) ?_
    refine Eq.trans (s_putI f_25_50 g_25_36 (by decide) kn_1) ?_
    refine Eq.trans (s_iconst f_25_53) ?_
    refine Eq.trans (s_istoren f_25_54 rfl) ?_
    rfl
  · refine Eq.trans (s_aloadn f_25_28 rfl) ?_
    refine Eq.trans (s_iloadn f_25_29 rfl) ?_
    refine Eq.trans (s_iconst f_25_30) ?_
    refine Eq.trans (s_isub f_25_31) ?_
    refine Eq.trans (s_aloadn f_25_32 rfl) ?_
    refine Eq.trans (s_iloadn f_25_33 rfl) ?_
    exact s_call [zR 1, zI (zw (v2 - 1)), zR 1, zI v2] [] f_25_34 rfl c_25_49 rfl rfl (Nat.le_of_ble_eq_true rfl) (by show (zkn SH 1 == zown 12) = true; rw [show zkn SH 1 = 1 from kn_1]; rfl)
theorem q_25_37 {d : Nat} (v1 v2 : Int) (M : ZM) : Q d 25 37 [zR 1, zI v1, zI v2] [] M = Q d 25 20 [zR 1, zI v1, zI (zw (v2 + 1))] [] M := by
  refine Eq.trans (s_iinc f_25_37 rfl rfl) ?_
  refine Eq.trans (s_goto 20 f_25_40 (by decide)) ?_
  rfl
theorem q_25_55 {d : Nat} (v1 v2 : Int) (M : ZM) : Q d 25 55 [zR 1, zI v1, zI v2] [] M = if (M 1 9) ≤ v2 then (if (M 1 10) ≠ v1 then (Cb (E d 27 [zI (M 1 10), zI v1] M) (fun v h => zrun (zevl d) 25 122 [zR 1, zI v1, zI v2] (v.toList ++ [zR 1]) h)) else (Q d 25 122 [zR 1, zI v1, zI v2] [zI 0, zR 1] M)) else (if 0 ≤ v2 ∧ v2 < 20 then Cb (E d 27 [zI (M 7 v2), zI v1] M) (fun v h => zrun (zevl d) 25 78 [zR 1, zI v1, zI v2] (v.toList ++ [zI v2, zR 7]) h) else none) := by
  refine Eq.trans (s_iloadn f_25_55 rfl) ?_
  refine Eq.trans (s_aloadn f_25_56 rfl) ?_
  refine Eq.trans (s_getI f_25_57 g_25_40 (by decide) kn_1) ?_
  refine Eq.trans (s_icmp (P := (M 1 9) ≤ v2) 101 f_25_60 (by decide) rfl) (ite_cg (fun h1 => ?_) (fun h1 => ?_))
  · refine Eq.trans (s_aloadn f_25_101 rfl) ?_
    refine Eq.trans (s_aloadn f_25_102 rfl) ?_
    refine Eq.trans (s_getI f_25_103 g_25_43 (by decide) kn_1) ?_
    refine Eq.trans (s_iloadn f_25_106 rfl) ?_
    refine Eq.trans (s_icmp (P := (M 1 10) ≠ v1) 114 f_25_107 (by decide) rfl) (ite_cg (fun h2 => ?_) (fun h2 => ?_))
    · refine Eq.trans (s_aloadn f_25_114 rfl) ?_
      refine Eq.trans (s_getI f_25_115 g_25_43 (by decide) kn_1) ?_
      refine Eq.trans (s_iloadn f_25_118 rfl) ?_
      exact s_call [zI (M 1 10), zI v1] [zR 1] f_25_119 rfl c_25_99 rfl rfl (Nat.le_of_ble_eq_true rfl) rfl
    · refine Eq.trans (s_iconst f_25_110) ?_
      refine Eq.trans (s_goto 122 f_25_111 (by decide)) ?_
      rfl
  · refine Eq.trans (s_aloadn f_25_63 rfl) ?_
    refine Eq.trans (s_getR f_25_64 g_25_27 (by decide) kn_1 rf_1_5) ?_
    refine Eq.trans (s_iloadn f_25_67 rfl) ?_
    refine Eq.trans (s_aloadn f_25_68 rfl) ?_
    refine Eq.trans (s_getR f_25_69 g_25_27 (by decide) kn_1 rf_1_5) ?_
    refine Eq.trans (s_iloadn f_25_72 rfl) ?_
    refine Eq.trans (s_iald f_25_73 kn_7 ln_7) (gd_cg fun h3 => ?_)
    refine Eq.trans (s_iloadn f_25_74 rfl) ?_
    exact s_call [zI (M 7 v2), zI v1] [zI v2, zR 7] f_25_75 rfl c_25_99 rfl rfl (Nat.le_of_ble_eq_true rfl) rfl
theorem q_25_78 {d : Nat} (v1 v2 s1 s2 : Int) (M : ZM) : Q d 25 78 [zR 1, zI v1, zI v2] [zI s2, zI s1, zR 7] M = if 0 ≤ s1 ∧ s1 < 20 then if 0 ≤ v2 ∧ v2 < 20 then Cb (E d 27 [zI ((zwr M 7 s1 s2) 8 v2), zI v1] (zwr M 7 s1 s2)) (fun v h => zrun (zevl d) 25 94 [zR 1, zI v1, zI v2] (v.toList ++ [zI v2, zR 8]) h) else none else none := by
  refine Eq.trans (s_iast f_25_78 kn_7 ln_7) (gd_cg fun h1 => ?_)
  refine Eq.trans (s_aloadn f_25_79 rfl) ?_
  refine Eq.trans (s_getR f_25_80 g_25_30 (by decide) kn_1 rf_1_6) ?_
  refine Eq.trans (s_iloadn f_25_83 rfl) ?_
  refine Eq.trans (s_aloadn f_25_84 rfl) ?_
  refine Eq.trans (s_getR f_25_85 g_25_30 (by decide) kn_1 rf_1_6) ?_
  refine Eq.trans (s_iloadn f_25_88 rfl) ?_
  refine Eq.trans (s_iald f_25_89 kn_8 ln_8) (gd_cg fun h2 => ?_)
  refine Eq.trans (s_iloadn f_25_90 rfl) ?_
  exact s_call [zI ((zwr M 7 s1 s2) 8 v2), zI v1] [zI v2, zR 8] f_25_91 rfl c_25_99 rfl rfl (Nat.le_of_ble_eq_true rfl) rfl
theorem q_25_94 {d : Nat} (v1 v2 s1 s2 : Int) (M : ZM) : Q d 25 94 [zR 1, zI v1, zI v2] [zI s2, zI s1, zR 8] M = if 0 ≤ s1 ∧ s1 < 20 then Q d 25 55 [zR 1, zI v1, zI (zw (v2 + 1))] [] (zwr M 8 s1 s2) else none := by
  refine Eq.trans (s_iast f_25_94 kn_8 ln_8) (gd_cg fun h1 => ?_)
  refine Eq.trans (s_iinc f_25_95 rfl rfl) ?_
  refine Eq.trans (s_goto 55 f_25_98 (by decide)) ?_
  rfl
theorem q_25_122 {d : Nat} (v1 v2 s1 : Int) (M : ZM) : Q d 25 122 [zR 1, zI v1, zI v2] [zI s1, zR 1] M = Rt (some (zI ((zwr M 1 10 s1) 1 8))) (zwr M 1 10 s1) := by
  refine Eq.trans (s_putI f_25_122 g_25_43 (by decide) kn_1) ?_
  refine Eq.trans (s_aloadn f_25_125 rfl) ?_
  refine Eq.trans (s_getI f_25_126 g_25_36 (by decide) kn_1) ?_
  exact s_iret f_25_129 t_25
theorem en_25 {d : Nat} (v1 : Int) (M : ZM) : E (d + 1) 25 [zR 1, zI v1] M = Q d 25 0 [zR 1, zI v1, zU] [] M := e_in (Nat.le_of_ble_eq_true rfl)
-- DungeonBuilder$Dungeon.dropCorridorsOf(I)V
theorem q_26_0 {d : Nat} (v1 : Int) (M : ZM) : Q d 26 0 [zR 1, zI v1, zU, zU] [] M = Q d 26 4 [zR 1, zI v1, zI 0, zI 0] [] M := by
  refine Eq.trans (s_iconst f_26_0) ?_
  refine Eq.trans (s_istoren f_26_1 rfl) ?_
  refine Eq.trans (s_iconst f_26_2) ?_
  refine Eq.trans (s_istoren f_26_3 rfl) ?_
  rfl
theorem q_26_4 {d : Nat} (v1 v2 v3 : Int) (M : ZM) : Q d 26 4 [zR 1, zI v1, zI v2, zI v3] [] M = if (M 1 9) ≤ v3 then (Rt none (zwr M 1 9 v2)) else (Cb (E d 29 [zR 1, zI v3, zI v1] M) (fun v h => zrun (zevl d) 26 18 [zR 1, zI v1, zI v2, zI v3] (v.toList ++ []) h)) := by
  refine Eq.trans (s_iloadn f_26_4 rfl) ?_
  refine Eq.trans (s_aloadn f_26_5 rfl) ?_
  refine Eq.trans (s_getI f_26_6 g_26_40 (by decide) kn_1) ?_
  refine Eq.trans (s_icmp (P := (M 1 9) ≤ v3) 37 f_26_9 (by decide) rfl) (ite_cg (fun h1 => ?_) (fun h1 => ?_))
  · refine Eq.trans (s_aloadn f_26_37 rfl) ?_
    refine Eq.trans (s_iloadn f_26_38 rfl) ?_
    refine Eq.trans (s_putI f_26_39 g_26_40 (by decide) kn_1) ?_
    exact s_vret f_26_42 t_26
  · refine Eq.trans (s_aloadn f_26_12 rfl) ?_
    refine Eq.trans (s_iloadn f_26_13 rfl) ?_
    refine Eq.trans (s_iloadn f_26_14 rfl) ?_
    exact s_call [zR 1, zI v3, zI v1] [] f_26_15 rfl c_26_102 rfl rfl (Nat.le_of_ble_eq_true rfl) (by show (zkn SH 1 == zown 29) = true; rw [show zkn SH 1 = 1 from kn_1]; rfl)
theorem q_26_18 {d : Nat} (v1 v2 v3 s0 : Int) (M : ZM) : Q d 26 18 [zR 1, zI v1, zI v2, zI v3] [zI s0] M = if s0 ≠ 0 then (Q d 26 4 [zR 1, zI v1, zI v2, zI (zw (v3 + 1))] [] M) else (Cb (E d 13 [zR 1, zI v2, zR 1, zI v3] M) (fun v h => zrun (zevl d) 26 28 [zR 1, zI v1, zI v2, zI v3] (v.toList ++ []) h)) := by
  refine Eq.trans (s_if (P := s0 ≠ 0) 31 f_26_18 (by decide) rfl) (ite_cg (fun h1 => ?_) (fun h1 => ?_))
  · refine Eq.trans (s_iinc f_26_31 rfl rfl) ?_
    refine Eq.trans (s_goto 4 f_26_34 (by decide)) ?_
    rfl
  · refine Eq.trans (s_aloadn f_26_21 rfl) ?_
    refine Eq.trans (s_iloadn f_26_22 rfl) ?_
    refine Eq.trans (s_aloadn f_26_23 rfl) ?_
    refine Eq.trans (s_iloadn f_26_24 rfl) ?_
    exact s_call [zR 1, zI v2, zR 1, zI v3] [] f_26_25 rfl c_26_53 rfl rfl (Nat.le_of_ble_eq_true rfl) (by show (zkn SH 1 == zown 13) = true; rw [show zkn SH 1 = 1 from kn_1]; rfl)
theorem q_26_28 {d : Nat} (v1 v2 v3 : Int) (M : ZM) : Q d 26 28 [zR 1, zI v1, zI v2, zI v3] [] M = Q d 26 4 [zR 1, zI v1, zI (zw (v2 + 1)), zI (zw (v3 + 1))] [] M := by
  refine Eq.trans (s_iinc f_26_28 rfl rfl) ?_
  refine Eq.trans (s_iinc f_26_31 rfl rfl) ?_
  refine Eq.trans (s_goto 4 f_26_34 (by decide)) ?_
  rfl
theorem en_26 {d : Nat} (v1 : Int) (M : ZM) : E (d + 1) 26 [zR 1, zI v1] M = Q d 26 0 [zR 1, zI v1, zU, zU] [] M := e_in (Nat.le_of_ble_eq_true rfl)
-- DungeonBuilder$Dungeon.renumbered(II)I
theorem q_27_0 {d : Nat} (v0 v1 : Int) (M : ZM) : Q d 27 0 [zI v0, zI v1] [] M = if v0 ≤ v1 then (Rt (some (zI v0)) M) else (Rt (some (zI (zw (v0 - 1)))) M) := by
  refine Eq.trans (s_iloadn f_27_0 rfl) ?_
  refine Eq.trans (s_iloadn f_27_1 rfl) ?_
  refine Eq.trans (s_icmp (P := v0 ≤ v1) 11 f_27_2 (by decide) rfl) (ite_cg (fun h1 => ?_) (fun h1 => ?_))
  · refine Eq.trans (s_iloadn f_27_11 rfl) ?_
    exact s_iret f_27_12 t_27
  · refine Eq.trans (s_iloadn f_27_5 rfl) ?_
    refine Eq.trans (s_iconst f_27_6) ?_
    refine Eq.trans (s_isub f_27_7) ?_
    refine Eq.trans (s_goto 12 f_27_8 (by decide)) ?_
    exact s_iret f_27_12 t_27
theorem en_27 {d : Nat} (v0 v1 : Int) (M : ZM) : E (d + 1) 27 [zI v0, zI v1] M = Q d 27 0 [zI v0, zI v1] [] M := e_in (Nat.le_of_ble_eq_true rfl)
-- DungeonBuilder$Dungeon.dropCorridor(I)I
theorem q_28_0 {d : Nat} (v1 : Int) (M : ZM) : Q d 28 0 [zR 1, zI v1, zU] [] M = Cb (E d 16 [zR 1, zI v1] M) (fun v h => zrun (zevl d) 28 5 [zR 1, zI v1, zU] (v.toList ++ []) h) := by
  refine Eq.trans (s_aloadn f_28_0 rfl) ?_
  refine Eq.trans (s_iloadn f_28_1 rfl) ?_
  exact s_call [zR 1, zI v1] [] f_28_2 rfl c_28_85 rfl rfl (Nat.le_of_ble_eq_true rfl) (by show (zkn SH 1 == zown 16) = true; rw [show zkn SH 1 = 1 from kn_1]; rfl)
theorem q_28_5 {d : Nat} (v1 s0 : Int) (M : ZM) : Q d 28 5 [zR 1, zI v1, zU] [zI s0] M = if s0 ≠ 0 then (Q d 28 15 [zR 1, zI v1, zI (zw (v1 + 1))] [] M) else (Rt (some (zI (-101))) M) := by
  refine Eq.trans (s_if (P := s0 ≠ 0) 11 f_28_5 (by decide) rfl) (ite_cg (fun h1 => ?_) (fun h1 => ?_))
  · refine Eq.trans (s_iloadn f_28_11 rfl) ?_
    refine Eq.trans (s_iconst f_28_12) ?_
    refine Eq.trans (s_iadd f_28_13) ?_
    refine Eq.trans (s_istoren f_28_14 rfl) ?_
    rfl
  · refine Eq.trans (s_bipush f_28_8) ?_
    exact s_iret f_28_10 t_28
theorem q_28_15 {d : Nat} (v1 v2 : Int) (M : ZM) : Q d 28 15 [zR 1, zI v1, zI v2] [] M = if (M 1 9) ≤ v2 then (Rt (some (zI ((zwr M 1 9 (zw ((M 1 9) - 1))) 1 9))) (zwr M 1 9 (zw ((M 1 9) - 1)))) else (Cb (E d 13 [zR 1, zI (zw (v2 - 1)), zR 1, zI v2] M) (fun v h => zrun (zevl d) 28 32 [zR 1, zI v1, zI v2] (v.toList ++ []) h)) := by
  refine Eq.trans (s_iloadn f_28_15 rfl) ?_
  refine Eq.trans (s_aloadn f_28_16 rfl) ?_
  refine Eq.trans (s_getI f_28_17 g_28_40 (by decide) kn_1) ?_
  refine Eq.trans (s_icmp (P := (M 1 9) ≤ v2) 38 f_28_20 (by decide) rfl) (ite_cg (fun h1 => ?_) (fun h1 => ?_))
  · refine Eq.trans (s_aloadn f_28_38 rfl) ?_
    refine Eq.trans (s_dup f_28_39 rfl) ?_
    refine Eq.trans (s_getI f_28_40 g_28_40 (by decide) kn_1) ?_
    refine Eq.trans (s_iconst f_28_43) ?_
    refine Eq.trans (s_isub f_28_44) ?_
    refine Eq.trans (s_putI f_28_45 g_28_40 (by decide) kn_1) ?_
    refine Eq.trans (s_aloadn f_28_48 rfl) ?_
    refine Eq.trans (s_getI f_28_49 g_28_40 (by decide) kn_1) ?_
    exact s_iret f_28_52 t_28
  · refine Eq.trans (s_aloadn f_28_23 rfl) ?_
    refine Eq.trans (s_iloadn f_28_24 rfl) ?_
    refine Eq.trans (s_iconst f_28_25) ?_
    refine Eq.trans (s_isub f_28_26) ?_
    refine Eq.trans (s_aloadn f_28_27 rfl) ?_
    refine Eq.trans (s_iloadn f_28_28 rfl) ?_
    exact s_call [zR 1, zI (zw (v2 - 1)), zR 1, zI v2] [] f_28_29 rfl c_28_53 rfl rfl (Nat.le_of_ble_eq_true rfl) (by show (zkn SH 1 == zown 13) = true; rw [show zkn SH 1 = 1 from kn_1]; rfl)
theorem q_28_32 {d : Nat} (v1 v2 : Int) (M : ZM) : Q d 28 32 [zR 1, zI v1, zI v2] [] M = Q d 28 15 [zR 1, zI v1, zI (zw (v2 + 1))] [] M := by
  refine Eq.trans (s_iinc f_28_32 rfl rfl) ?_
  refine Eq.trans (s_goto 15 f_28_35 (by decide)) ?_
  rfl
theorem en_28 {d : Nat} (v1 : Int) (M : ZM) : E (d + 1) 28 [zR 1, zI v1] M = Q d 28 0 [zR 1, zI v1, zU] [] M := e_in (Nat.le_of_ble_eq_true rfl)
-- DungeonBuilder$Dungeon.ends(II)Z
theorem q_29_0 {d : Nat} (v1 v2 : Int) (M : ZM) : Q d 29 0 [zR 1, zI v1, zI v2] [] M = if 0 ≤ v1 ∧ v1 < 20 then if (M 7 v1) = v2 then (Rt (some (zI 1)) M) else (if 0 ≤ v1 ∧ v1 < 20 then if (M 8 v1) ≠ v2 then (Rt (some (zI 0)) M) else (Rt (some (zI 1)) M) else none) else none := by
  refine Eq.trans (s_aloadn f_29_0 rfl) ?_
  refine Eq.trans (s_getR f_29_1 g_29_27 (by decide) kn_1 rf_1_5) ?_
  refine Eq.trans (s_iloadn f_29_4 rfl) ?_
  refine Eq.trans (s_iald f_29_5 kn_7 ln_7) (gd_cg fun h1 => ?_)
  refine Eq.trans (s_iloadn f_29_6 rfl) ?_
  refine Eq.trans (s_icmp (P := (M 7 v1) = v2) 20 f_29_7 (by decide) rfl) (ite_cg (fun h2 => ?_) (fun h2 => ?_))
  · refine Eq.trans (s_iconst f_29_20) ?_
    refine Eq.trans (s_goto 25 f_29_21 (by decide)) ?_
    exact s_zret f_29_25 t_29 (by decide)
  · refine Eq.trans (s_aloadn f_29_10 rfl) ?_
    refine Eq.trans (s_getR f_29_11 g_29_30 (by decide) kn_1 rf_1_6) ?_
    refine Eq.trans (s_iloadn f_29_14 rfl) ?_
    refine Eq.trans (s_iald f_29_15 kn_8 ln_8) (gd_cg fun h3 => ?_)
    refine Eq.trans (s_iloadn f_29_16 rfl) ?_
    refine Eq.trans (s_icmp (P := (M 8 v1) ≠ v2) 24 f_29_17 (by decide) rfl) (ite_cg (fun h4 => ?_) (fun h4 => ?_))
    · refine Eq.trans (s_iconst f_29_24) ?_
      exact s_zret f_29_25 t_29 (by decide)
    · refine Eq.trans (s_iconst f_29_20) ?_
      refine Eq.trans (s_goto 25 f_29_21 (by decide)) ?_
      exact s_zret f_29_25 t_29 (by decide)
theorem en_29 {d : Nat} (v1 v2 : Int) (M : ZM) : E (d + 1) 29 [zR 1, zI v1, zI v2] M = Q d 29 0 [zR 1, zI v1, zI v2] [] M := e_in (Nat.le_of_ble_eq_true rfl)
-- DungeonBuilder$Dungeon.corridorBetween(II)I
theorem q_30_0 {d : Nat} (v1 v2 : Int) (M : ZM) : Q d 30 0 [zR 1, zI v1, zI v2, zU] [] M = Q d 30 2 [zR 1, zI v1, zI v2, zI 0] [] M := by
  refine Eq.trans (s_iconst f_30_0) ?_
  refine Eq.trans (s_istoren f_30_1 rfl) ?_
  rfl
theorem q_30_2 {d : Nat} (v1 v2 v3 : Int) (M : ZM) : Q d 30 2 [zR 1, zI v1, zI v2, zI v3] [] M = if (M 1 9) ≤ v3 then (Rt (some (zI (-1))) M) else (if v1 = v2 then (Q d 30 2 [zR 1, zI v1, zI v2, zI (zw (v3 + 1))] [] M) else (Cb (E d 29 [zR 1, zI v3, zI v1] M) (fun v h => zrun (zevl d) 30 21 [zR 1, zI v1, zI v2, zI v3] (v.toList ++ []) h))) := by
  refine Eq.trans (s_iloadn f_30_2 rfl) ?_
  refine Eq.trans (s_aloadn f_30_3 rfl) ?_
  refine Eq.trans (s_getI f_30_4 g_30_40 (by decide) kn_1) ?_
  refine Eq.trans (s_icmp (P := (M 1 9) ≤ v3) 41 f_30_7 (by decide) rfl) (ite_cg (fun h1 => ?_) (fun h1 => ?_))
  · refine Eq.trans (s_iconst f_30_41) ?_
    exact s_iret f_30_42 t_30
  · refine Eq.trans (s_iloadn f_30_10 rfl) ?_
    refine Eq.trans (s_iloadn f_30_11 rfl) ?_
    refine Eq.trans (s_icmp (P := v1 = v2) 35 f_30_12 (by decide) rfl) (ite_cg (fun h2 => ?_) (fun h2 => ?_))
    · refine Eq.trans (s_iinc f_30_35 rfl rfl) ?_
      refine Eq.trans (s_goto 2 f_30_38 (by decide)) ?_
      rfl
    · refine Eq.trans (s_aloadn f_30_15 rfl) ?_
      refine Eq.trans (s_iloadn f_30_16 rfl) ?_
      refine Eq.trans (s_iloadn f_30_17 rfl) ?_
      exact s_call [zR 1, zI v3, zI v1] [] f_30_18 rfl c_30_102 rfl rfl (Nat.le_of_ble_eq_true rfl) (by show (zkn SH 1 == zown 29) = true; rw [show zkn SH 1 = 1 from kn_1]; rfl)
theorem q_30_21 {d : Nat} (v1 v2 v3 s0 : Int) (M : ZM) : Q d 30 21 [zR 1, zI v1, zI v2, zI v3] [zI s0] M = if s0 = 0 then (Q d 30 2 [zR 1, zI v1, zI v2, zI (zw (v3 + 1))] [] M) else (Cb (E d 29 [zR 1, zI v3, zI v2] M) (fun v h => zrun (zevl d) 30 30 [zR 1, zI v1, zI v2, zI v3] (v.toList ++ []) h)) := by
  refine Eq.trans (s_if (P := s0 = 0) 35 f_30_21 (by decide) rfl) (ite_cg (fun h1 => ?_) (fun h1 => ?_))
  · refine Eq.trans (s_iinc f_30_35 rfl rfl) ?_
    refine Eq.trans (s_goto 2 f_30_38 (by decide)) ?_
    rfl
  · refine Eq.trans (s_aloadn f_30_24 rfl) ?_
    refine Eq.trans (s_iloadn f_30_25 rfl) ?_
    refine Eq.trans (s_iloadn f_30_26 rfl) ?_
    exact s_call [zR 1, zI v3, zI v2] [] f_30_27 rfl c_30_102 rfl rfl (Nat.le_of_ble_eq_true rfl) (by show (zkn SH 1 == zown 29) = true; rw [show zkn SH 1 = 1 from kn_1]; rfl)
theorem q_30_30 {d : Nat} (v1 v2 v3 s0 : Int) (M : ZM) : Q d 30 30 [zR 1, zI v1, zI v2, zI v3] [zI s0] M = if s0 = 0 then (Q d 30 2 [zR 1, zI v1, zI v2, zI (zw (v3 + 1))] [] M) else (Rt (some (zI v3)) M) := by
  refine Eq.trans (s_if (P := s0 = 0) 35 f_30_30 (by decide) rfl) (ite_cg (fun h1 => ?_) (fun h1 => ?_))
  · refine Eq.trans (s_iinc f_30_35 rfl rfl) ?_
    refine Eq.trans (s_goto 2 f_30_38 (by decide)) ?_
    rfl
  · refine Eq.trans (s_iloadn f_30_33 rfl) ?_
    exact s_iret f_30_34 t_30
theorem en_30 {d : Nat} (v1 v2 : Int) (M : ZM) : E (d + 1) 30 [zR 1, zI v1, zI v2] M = Q d 30 0 [zR 1, zI v1, zI v2, zU] [] M := e_in (Nat.le_of_ble_eq_true rfl)
-- DungeonBuilder$Dungeon.corridorsOf(I)I
theorem q_31_0 {d : Nat} (v1 : Int) (M : ZM) : Q d 31 0 [zR 1, zI v1, zU, zU] [] M = Q d 31 4 [zR 1, zI v1, zI 0, zI 0] [] M := by
  refine Eq.trans (s_iconst f_31_0) ?_
  refine Eq.trans (s_istoren f_31_1 rfl) ?_
  refine Eq.trans (s_iconst f_31_2) ?_
  refine Eq.trans (s_istoren f_31_3 rfl) ?_
  rfl
theorem q_31_4 {d : Nat} (v1 v2 v3 : Int) (M : ZM) : Q d 31 4 [zR 1, zI v1, zI v2, zI v3] [] M = if (M 1 9) ≤ v3 then (Rt (some (zI v2)) M) else (Cb (E d 29 [zR 1, zI v3, zI v1] M) (fun v h => zrun (zevl d) 31 18 [zR 1, zI v1, zI v2, zI v3] (v.toList ++ []) h)) := by
  refine Eq.trans (s_iloadn f_31_4 rfl) ?_
  refine Eq.trans (s_aloadn f_31_5 rfl) ?_
  refine Eq.trans (s_getI f_31_6 g_31_40 (by decide) kn_1) ?_
  refine Eq.trans (s_icmp (P := (M 1 9) ≤ v3) 30 f_31_9 (by decide) rfl) (ite_cg (fun h1 => ?_) (fun h1 => ?_))
  · refine Eq.trans (s_iloadn f_31_30 rfl) ?_
    exact s_iret f_31_31 t_31
  · refine Eq.trans (s_aloadn f_31_12 rfl) ?_
    refine Eq.trans (s_iloadn f_31_13 rfl) ?_
    refine Eq.trans (s_iloadn f_31_14 rfl) ?_
    exact s_call [zR 1, zI v3, zI v1] [] f_31_15 rfl c_31_102 rfl rfl (Nat.le_of_ble_eq_true rfl) (by show (zkn SH 1 == zown 29) = true; rw [show zkn SH 1 = 1 from kn_1]; rfl)
theorem q_31_18 {d : Nat} (v1 v2 v3 s0 : Int) (M : ZM) : Q d 31 18 [zR 1, zI v1, zI v2, zI v3] [zI s0] M = if s0 = 0 then (Q d 31 4 [zR 1, zI v1, zI v2, zI (zw (v3 + 1))] [] M) else (Q d 31 4 [zR 1, zI v1, zI (zw (v2 + 1)), zI (zw (v3 + 1))] [] M) := by
  refine Eq.trans (s_if (P := s0 = 0) 24 f_31_18 (by decide) rfl) (ite_cg (fun h1 => ?_) (fun h1 => ?_))
  · refine Eq.trans (s_iinc f_31_24 rfl rfl) ?_
    refine Eq.trans (s_goto 4 f_31_27 (by decide)) ?_
    rfl
  · refine Eq.trans (s_iinc f_31_21 rfl rfl) ?_
    refine Eq.trans (s_iinc f_31_24 rfl rfl) ?_
    refine Eq.trans (s_goto 4 f_31_27 (by decide)) ?_
    rfl
theorem en_31 {d : Nat} (v1 : Int) (M : ZM) : E (d + 1) 31 [zR 1, zI v1] M = Q d 31 0 [zR 1, zI v1, zU, zU] [] M := e_in (Nat.le_of_ble_eq_true rfl)
-- DungeonBuilder$Dungeon.centerColumn(I)I
theorem q_32_0 {d : Nat} (v1 : Int) (M : ZM) : Q d 32 0 [zR 1, zI v1] [] M = if 0 ≤ v1 ∧ v1 < 12 then if 0 ≤ v1 ∧ v1 < 12 then Rt (some (zI (zw ((M 2 v1) + (zw (((M 4 v1)).tdiv 2)))))) M else none else none := by
  refine Eq.trans (s_aloadn f_32_0 rfl) ?_
  refine Eq.trans (s_getR f_32_1 g_32_9 (by decide) kn_1 rf_1_0) ?_
  refine Eq.trans (s_iloadn f_32_4 rfl) ?_
  refine Eq.trans (s_iald f_32_5 kn_2 ln_2) (gd_cg fun h1 => ?_)
  refine Eq.trans (s_aloadn f_32_6 rfl) ?_
  refine Eq.trans (s_getR f_32_7 g_32_18 (by decide) kn_1 rf_1_2) ?_
  refine Eq.trans (s_iloadn f_32_10 rfl) ?_
  refine Eq.trans (s_iald f_32_11 kn_4 ln_4) (gd_cg fun h2 => ?_)
  refine Eq.trans (s_iconst f_32_12) ?_
  refine Eq.trans (s_idiv f_32_13) (Eq.trans (if_pos (by decide)) ?_)
  refine Eq.trans (s_iadd f_32_14) ?_
  exact s_iret f_32_15 t_32
theorem en_32 {d : Nat} (v1 : Int) (M : ZM) : E (d + 1) 32 [zR 1, zI v1] M = Q d 32 0 [zR 1, zI v1] [] M := e_in (Nat.le_of_ble_eq_true rfl)
-- DungeonBuilder$Dungeon.centerRow(I)I
theorem q_33_0 {d : Nat} (v1 : Int) (M : ZM) : Q d 33 0 [zR 1, zI v1] [] M = if 0 ≤ v1 ∧ v1 < 12 then if 0 ≤ v1 ∧ v1 < 12 then Rt (some (zI (zw ((M 3 v1) + (zw (((M 5 v1)).tdiv 2)))))) M else none else none := by
  refine Eq.trans (s_aloadn f_33_0 rfl) ?_
  refine Eq.trans (s_getR f_33_1 g_33_15 (by decide) kn_1 rf_1_1) ?_
  refine Eq.trans (s_iloadn f_33_4 rfl) ?_
  refine Eq.trans (s_iald f_33_5 kn_3 ln_3) (gd_cg fun h1 => ?_)
  refine Eq.trans (s_aloadn f_33_6 rfl) ?_
  refine Eq.trans (s_getR f_33_7 g_33_21 (by decide) kn_1 rf_1_3) ?_
  refine Eq.trans (s_iloadn f_33_10 rfl) ?_
  refine Eq.trans (s_iald f_33_11 kn_5 ln_5) (gd_cg fun h2 => ?_)
  refine Eq.trans (s_iconst f_33_12) ?_
  refine Eq.trans (s_idiv f_33_13) (Eq.trans (if_pos (by decide)) ?_)
  refine Eq.trans (s_iadd f_33_14) ?_
  exact s_iret f_33_15 t_33
theorem en_33 {d : Nat} (v1 : Int) (M : ZM) : E (d + 1) 33 [zR 1, zI v1] M = Q d 33 0 [zR 1, zI v1] [] M := e_in (Nat.le_of_ble_eq_true rfl)
-- DungeonBuilder$Dungeon.distance(II)I
theorem q_34_0 {d : Nat} (v1 v2 : Int) (M : ZM) : Q d 34 0 [zR 1, zI v1, zI v2] [] M = Cb (E d 32 [zR 1, zI v1] M) (fun v h => zrun (zevl d) 34 5 [zR 1, zI v1, zI v2] (v.toList ++ []) h) := by
  refine Eq.trans (s_aloadn f_34_0 rfl) ?_
  refine Eq.trans (s_iloadn f_34_1 rfl) ?_
  exact s_call [zR 1, zI v1] [] f_34_2 rfl c_34_106 rfl rfl (Nat.le_of_ble_eq_true rfl) (by show (zkn SH 1 == zown 32) = true; rw [show zkn SH 1 = 1 from kn_1]; rfl)
theorem q_34_5 {d : Nat} (v1 v2 s0 : Int) (M : ZM) : Q d 34 5 [zR 1, zI v1, zI v2] [zI s0] M = Cb (E d 32 [zR 1, zI v2] M) (fun v h => zrun (zevl d) 34 10 [zR 1, zI v1, zI v2] (v.toList ++ [zI s0]) h) := by
  refine Eq.trans (s_aloadn f_34_5 rfl) ?_
  refine Eq.trans (s_iloadn f_34_6 rfl) ?_
  exact s_call [zR 1, zI v2] [zI s0] f_34_7 rfl c_34_106 rfl rfl (Nat.le_of_ble_eq_true rfl) (by show (zkn SH 1 == zown 32) = true; rw [show zkn SH 1 = 1 from kn_1]; rfl)
theorem q_34_10 {d : Nat} (v1 v2 s0 s1 : Int) (M : ZM) : Q d 34 10 [zR 1, zI v1, zI v2] [zI s1, zI s0] M = Cb (E d 33 [zR 1, zI v1] M) (fun v h => zrun (zevl d) 34 19 [zR 1, zI v1, zI v2] (v.toList ++ [zI (if 0 ≤ (zw (s0 - s1)) then (zw (s0 - s1)) else zw (0 - (zw (s0 - s1))))]) h) := by
  refine Eq.trans (s_isub f_34_10) ?_
  refine Eq.trans (s_abs f_34_11 m_34_109 (Nat.le_of_ble_eq_true rfl)) ?_
  refine Eq.trans (s_aloadn f_34_14 rfl) ?_
  refine Eq.trans (s_iloadn f_34_15 rfl) ?_
  exact s_call [zR 1, zI v1] [zI (if 0 ≤ (zw (s0 - s1)) then (zw (s0 - s1)) else zw (0 - (zw (s0 - s1))))] f_34_16 rfl c_34_112 rfl rfl (Nat.le_of_ble_eq_true rfl) (by show (zkn SH 1 == zown 33) = true; rw [show zkn SH 1 = 1 from kn_1]; rfl)
theorem q_34_19 {d : Nat} (v1 v2 s0 s1 : Int) (M : ZM) : Q d 34 19 [zR 1, zI v1, zI v2] [zI s1, zI s0] M = Cb (E d 33 [zR 1, zI v2] M) (fun v h => zrun (zevl d) 34 24 [zR 1, zI v1, zI v2] (v.toList ++ [zI s1, zI s0]) h) := by
  refine Eq.trans (s_aloadn f_34_19 rfl) ?_
  refine Eq.trans (s_iloadn f_34_20 rfl) ?_
  exact s_call [zR 1, zI v2] [zI s1, zI s0] f_34_21 rfl c_34_112 rfl rfl (Nat.le_of_ble_eq_true rfl) (by show (zkn SH 1 == zown 33) = true; rw [show zkn SH 1 = 1 from kn_1]; rfl)
theorem q_34_24 {d : Nat} (v1 v2 s0 s1 s2 : Int) (M : ZM) : Q d 34 24 [zR 1, zI v1, zI v2] [zI s2, zI s1, zI s0] M = Rt (some (zI (zw (s0 + (if 0 ≤ (zw (s1 - s2)) then (zw (s1 - s2)) else zw (0 - (zw (s1 - s2)))))))) M := by
  refine Eq.trans (s_isub f_34_24) ?_
  refine Eq.trans (s_abs f_34_25 m_34_109 (Nat.le_of_ble_eq_true rfl)) ?_
  refine Eq.trans (s_iadd f_34_28) ?_
  exact s_iret f_34_29 t_34
theorem en_34 {d : Nat} (v1 v2 : Int) (M : ZM) : E (d + 1) 34 [zR 1, zI v1, zI v2] M = Q d 34 0 [zR 1, zI v1, zI v2] [] M := e_in (Nat.le_of_ble_eq_true rfl)
-- DungeonBuilder$Dungeon.opens(II)Z
theorem q_35_0 {d : Nat} (v1 v2 : Int) (M : ZM) : Q d 35 0 [zR 1, zI v1, zI v2] [] M = if 0 ≤ v1 ∧ v1 < 20 then if (M 9 v1) = (-1) then (Rt (some (zI 1)) M) else (if 0 ≤ v1 ∧ v1 < 20 then Cb (E d 149 [zI v2, zI (M 9 v1)] M) (fun v h => zrun (zevl d) 35 20 [zR 1, zI v1, zI v2] (v.toList ++ []) h) else none) else none := by
  refine Eq.trans (s_aloadn f_35_0 rfl) ?_
  refine Eq.trans (s_getR f_35_1 g_35_33 (by decide) kn_1 rf_1_7) ?_
  refine Eq.trans (s_iloadn f_35_4 rfl) ?_
  refine Eq.trans (s_iald f_35_5 kn_9 ln_9) (gd_cg fun h1 => ?_)
  refine Eq.trans (s_iconst f_35_6) ?_
  refine Eq.trans (s_icmp (P := (M 9 v1) = (-1)) 23 f_35_7 (by decide) rfl) (ite_cg (fun h2 => ?_) (fun h2 => ?_))
  · refine Eq.trans (s_iconst f_35_23) ?_
    refine Eq.trans (s_goto 28 f_35_24 (by decide)) ?_
    exact s_zret f_35_28 t_35 (by decide)
  · refine Eq.trans (s_iloadn f_35_10 rfl) ?_
    refine Eq.trans (s_aloadn f_35_11 rfl) ?_
    refine Eq.trans (s_getR f_35_12 g_35_33 (by decide) kn_1 rf_1_7) ?_
    refine Eq.trans (s_iloadn f_35_15 rfl) ?_
    refine Eq.trans (s_iald f_35_16 kn_9 ln_9) (gd_cg fun h3 => ?_)
    exact s_call [zI v2, zI (M 9 v1)] [] f_35_17 rfl c_35_115 rfl rfl (Nat.le_of_ble_eq_true rfl) rfl
theorem q_35_20 {d : Nat} (v1 v2 s0 : Int) (M : ZM) : Q d 35 20 [zR 1, zI v1, zI v2] [zI s0] M = if s0 = 0 then (Rt (some (zI 0)) M) else (Rt (some (zI 1)) M) := by
  refine Eq.trans (s_if (P := s0 = 0) 27 f_35_20 (by decide) rfl) (ite_cg (fun h1 => ?_) (fun h1 => ?_))
  · refine Eq.trans (s_iconst f_35_27) ?_
    exact s_zret f_35_28 t_35 (by decide)
  · refine Eq.trans (s_iconst f_35_23) ?_
    refine Eq.trans (s_goto 28 f_35_24 (by decide)) ?_
    exact s_zret f_35_28 t_35 (by decide)
theorem en_35 {d : Nat} (v1 v2 : Int) (M : ZM) : E (d + 1) 35 [zR 1, zI v1, zI v2] M = Q d 35 0 [zR 1, zI v1, zI v2] [] M := e_in (Nat.le_of_ble_eq_true rfl)
-- DungeonBuilder$Dungeon.keyBit(I)I
theorem q_36_0 {d : Nat} (v1 : Int) (M : ZM) : Q d 36 0 [zR 1, zI v1] [] M = if 0 ≤ v1 ∧ v1 < 12 then if (M 6 v1) ≠ (-1) then (if 0 ≤ v1 ∧ v1 < 12 then Rt (some (zI (zshl 1 (M 6 v1)))) M else none) else (Rt (some (zI 0)) M) else none := by
  refine Eq.trans (s_aloadn f_36_0 rfl) ?_
  refine Eq.trans (s_getR f_36_1 g_36_24 (by decide) kn_1 rf_1_4) ?_
  refine Eq.trans (s_iloadn f_36_4 rfl) ?_
  refine Eq.trans (s_iald f_36_5 kn_6 ln_6) (gd_cg fun h1 => ?_)
  refine Eq.trans (s_iconst f_36_6) ?_
  refine Eq.trans (s_icmp (P := (M 6 v1) ≠ (-1)) 14 f_36_7 (by decide) rfl) (ite_cg (fun h2 => ?_) (fun h2 => ?_))
  · refine Eq.trans (s_iconst f_36_14) ?_
    refine Eq.trans (s_aloadn f_36_15 rfl) ?_
    refine Eq.trans (s_getR f_36_16 g_36_24 (by decide) kn_1 rf_1_4) ?_
    refine Eq.trans (s_iloadn f_36_19 rfl) ?_
    refine Eq.trans (s_iald f_36_20 kn_6 ln_6) (gd_cg fun h3 => ?_)
    refine Eq.trans (s_ishl f_36_21) ?_
    exact s_iret f_36_22 t_36
  · refine Eq.trans (s_iconst f_36_10) ?_
    refine Eq.trans (s_goto 22 f_36_11 (by decide)) ?_
    exact s_iret f_36_22 t_36
theorem en_36 {d : Nat} (v1 : Int) (M : ZM) : E (d + 1) 36 [zR 1, zI v1] M = Q d 36 0 [zR 1, zI v1] [] M := e_in (Nat.le_of_ble_eq_true rfl)
-- DungeonBuilder$Dungeon.locks()I
theorem q_37_0 {d : Nat} (M : ZM) : Q d 37 0 [zR 1, zU, zU] [] M = Q d 37 4 [zR 1, zI 0, zI 0] [] M := by
  refine Eq.trans (s_iconst f_37_0) ?_
  refine Eq.trans (s_istoren f_37_1 rfl) ?_
  refine Eq.trans (s_iconst f_37_2) ?_
  refine Eq.trans (s_istoren f_37_3 rfl) ?_
  rfl
theorem q_37_4 {d : Nat} (v1 v2 : Int) (M : ZM) : Q d 37 4 [zR 1, zI v1, zI v2] [] M = if (M 1 9) ≤ v2 then (Rt (some (zI v1)) M) else (if 0 ≤ v2 ∧ v2 < 20 then if (M 9 v2) = (-1) then (Q d 37 4 [zR 1, zI v1, zI (zw (v2 + 1))] [] M) else (Q d 37 4 [zR 1, zI (zw (v1 + 1)), zI (zw (v2 + 1))] [] M) else none) := by
  refine Eq.trans (s_iloadn f_37_4 rfl) ?_
  refine Eq.trans (s_aloadn f_37_5 rfl) ?_
  refine Eq.trans (s_getI f_37_6 g_37_40 (by decide) kn_1) ?_
  refine Eq.trans (s_icmp (P := (M 1 9) ≤ v2) 31 f_37_9 (by decide) rfl) (ite_cg (fun h1 => ?_) (fun h1 => ?_))
  · refine Eq.trans (s_iloadn f_37_31 rfl) ?_
    exact s_iret f_37_32 t_37
  · refine Eq.trans (s_aloadn f_37_12 rfl) ?_
    refine Eq.trans (s_getR f_37_13 g_37_33 (by decide) kn_1 rf_1_7) ?_
    refine Eq.trans (s_iloadn f_37_16 rfl) ?_
    refine Eq.trans (s_iald f_37_17 kn_9 ln_9) (gd_cg fun h2 => ?_)
    refine Eq.trans (s_iconst f_37_18) ?_
    refine Eq.trans (s_icmp (P := (M 9 v2) = (-1)) 25 f_37_19 (by decide) rfl) (ite_cg (fun h3 => ?_) (fun h3 => ?_))
    · refine Eq.trans (s_iinc f_37_25 rfl rfl) ?_
      refine Eq.trans (s_goto 4 f_37_28 (by decide)) ?_
      rfl
    · refine Eq.trans (s_iinc f_37_22 rfl rfl) ?_
      refine Eq.trans (s_iinc f_37_25 rfl rfl) ?_
      refine Eq.trans (s_goto 4 f_37_28 (by decide)) ?_
      rfl
theorem en_37 {d : Nat} (M : ZM) : E (d + 1) 37 [zR 1] M = Q d 37 0 [zR 1, zU, zU] [] M := e_in (Nat.le_of_ble_eq_true rfl)
-- DungeonBuilder$Dungeon.keys()I
theorem q_38_0 {d : Nat} (M : ZM) : Q d 38 0 [zR 1, zU, zU] [] M = Q d 38 4 [zR 1, zI 0, zI 0] [] M := by
  refine Eq.trans (s_iconst f_38_0) ?_
  refine Eq.trans (s_istoren f_38_1 rfl) ?_
  refine Eq.trans (s_iconst f_38_2) ?_
  refine Eq.trans (s_istoren f_38_3 rfl) ?_
  rfl
theorem q_38_4 {d : Nat} (v1 v2 : Int) (M : ZM) : Q d 38 4 [zR 1, zI v1, zI v2] [] M = if (M 1 8) ≤ v2 then (Rt (some (zI v1)) M) else (if 0 ≤ v2 ∧ v2 < 12 then if (M 6 v2) = (-1) then (Q d 38 4 [zR 1, zI v1, zI (zw (v2 + 1))] [] M) else (Q d 38 4 [zR 1, zI (zw (v1 + 1)), zI (zw (v2 + 1))] [] M) else none) := by
  refine Eq.trans (s_iloadn f_38_4 rfl) ?_
  refine Eq.trans (s_aloadn f_38_5 rfl) ?_
  refine Eq.trans (s_getI f_38_6 g_38_36 (by decide) kn_1) ?_
  refine Eq.trans (s_icmp (P := (M 1 8) ≤ v2) 31 f_38_9 (by decide) rfl) (ite_cg (fun h1 => ?_) (fun h1 => ?_))
  · refine Eq.trans (s_iloadn f_38_31 rfl) ?_
    exact s_iret f_38_32 t_38
  · refine Eq.trans (s_aloadn f_38_12 rfl) ?_
    refine Eq.trans (s_getR f_38_13 g_38_24 (by decide) kn_1 rf_1_4) ?_
    refine Eq.trans (s_iloadn f_38_16 rfl) ?_
    refine Eq.trans (s_iald f_38_17 kn_6 ln_6) (gd_cg fun h2 => ?_)
    refine Eq.trans (s_iconst f_38_18) ?_
    refine Eq.trans (s_icmp (P := (M 6 v2) = (-1)) 25 f_38_19 (by decide) rfl) (ite_cg (fun h3 => ?_) (fun h3 => ?_))
    · refine Eq.trans (s_iinc f_38_25 rfl rfl) ?_
      refine Eq.trans (s_goto 4 f_38_28 (by decide)) ?_
      rfl
    · refine Eq.trans (s_iinc f_38_22 rfl rfl) ?_
      refine Eq.trans (s_iinc f_38_25 rfl rfl) ?_
      refine Eq.trans (s_goto 4 f_38_28 (by decide)) ?_
      rfl
theorem en_38 {d : Nat} (M : ZM) : E (d + 1) 38 [zR 1] M = Q d 38 0 [zR 1, zU, zU] [] M := e_in (Nat.le_of_ble_eq_true rfl)
-- DungeonBuilder$Dungeon.cellsOf(I)I
theorem q_39_0 {d : Nat} (v1 : Int) (M : ZM) : Q d 39 0 [zR 1, zI v1] [] M = if 0 ≤ v1 ∧ v1 < 12 then if 0 ≤ v1 ∧ v1 < 12 then Rt (some (zI (zw ((M 4 v1) * (M 5 v1))))) M else none else none := by
  refine Eq.trans (s_aloadn f_39_0 rfl) ?_
  refine Eq.trans (s_getR f_39_1 g_39_18 (by decide) kn_1 rf_1_2) ?_
  refine Eq.trans (s_iloadn f_39_4 rfl) ?_
  refine Eq.trans (s_iald f_39_5 kn_4 ln_4) (gd_cg fun h1 => ?_)
  refine Eq.trans (s_aloadn f_39_6 rfl) ?_
  refine Eq.trans (s_getR f_39_7 g_39_21 (by decide) kn_1 rf_1_3) ?_
  refine Eq.trans (s_iloadn f_39_10 rfl) ?_
  refine Eq.trans (s_iald f_39_11 kn_5 ln_5) (gd_cg fun h2 => ?_)
  refine Eq.trans (s_imul f_39_12) ?_
  exact s_iret f_39_13 t_39
theorem en_39 {d : Nat} (v1 : Int) (M : ZM) : E (d + 1) 39 [zR 1, zI v1] M = Q d 39 0 [zR 1, zI v1] [] M := e_in (Nat.le_of_ble_eq_true rfl)
-- DungeonBuilder$Dungeon.roomCells()I
theorem q_40_0 {d : Nat} (M : ZM) : Q d 40 0 [zR 1, zU, zU] [] M = Q d 40 4 [zR 1, zI 0, zI 0] [] M := by
  refine Eq.trans (s_iconst f_40_0) ?_
  refine Eq.trans (s_istoren f_40_1 rfl) ?_
  refine Eq.trans (s_iconst f_40_2) ?_
  refine Eq.trans (s_istoren f_40_3 rfl) ?_
  rfl
theorem q_40_4 {d : Nat} (v1 v2 : Int) (M : ZM) : Q d 40 4 [zR 1, zI v1, zI v2] [] M = if (M 1 8) ≤ v2 then (Rt (some (zI v1)) M) else (Cb (E d 39 [zR 1, zI v2] M) (fun v h => zrun (zevl d) 40 18 [zR 1, zI v1, zI v2] (v.toList ++ [zI v1]) h)) := by
  refine Eq.trans (s_iloadn f_40_4 rfl) ?_
  refine Eq.trans (s_aloadn f_40_5 rfl) ?_
  refine Eq.trans (s_getI f_40_6 g_40_36 (by decide) kn_1) ?_
  refine Eq.trans (s_icmp (P := (M 1 8) ≤ v2) 26 f_40_9 (by decide) rfl) (ite_cg (fun h1 => ?_) (fun h1 => ?_))
  · refine Eq.trans (s_iloadn f_40_26 rfl) ?_
    exact s_iret f_40_27 t_40
  · refine Eq.trans (s_iloadn f_40_12 rfl) ?_
    refine Eq.trans (s_aloadn f_40_13 rfl) ?_
    refine Eq.trans (s_iloadn f_40_14 rfl) ?_
    exact s_call [zR 1, zI v2] [zI v1] f_40_15 rfl c_40_118 rfl rfl (Nat.le_of_ble_eq_true rfl) (by show (zkn SH 1 == zown 39) = true; rw [show zkn SH 1 = 1 from kn_1]; rfl)
theorem q_40_18 {d : Nat} (v1 v2 s0 s1 : Int) (M : ZM) : Q d 40 18 [zR 1, zI v1, zI v2] [zI s1, zI s0] M = Q d 40 4 [zR 1, zI (zw (s0 + s1)), zI (zw (v2 + 1))] [] M := by
  refine Eq.trans (s_iadd f_40_18) ?_
  refine Eq.trans (s_istoren f_40_19 rfl) ?_
  refine Eq.trans (s_iinc f_40_20 rfl rfl) ?_
  refine Eq.trans (s_goto 4 f_40_23 (by decide)) ?_
  rfl
theorem en_40 {d : Nat} (M : ZM) : E (d + 1) 40 [zR 1] M = Q d 40 0 [zR 1, zU, zU] [] M := e_in (Nat.le_of_ble_eq_true rfl)
-- DungeonBuilder$Dungeon.deadEnds()I
theorem q_41_0 {d : Nat} (M : ZM) : Q d 41 0 [zR 1, zU, zU] [] M = Q d 41 4 [zR 1, zI 0, zI 0] [] M := by
  refine Eq.trans (s_iconst f_41_0) ?_
  refine Eq.trans (s_istoren f_41_1 rfl) ?_
  refine Eq.trans (s_iconst f_41_2) ?_
  refine Eq.trans (s_istoren f_41_3 rfl) ?_
  rfl
theorem q_41_4 {d : Nat} (v1 v2 : Int) (M : ZM) : Q d 41 4 [zR 1, zI v1, zI v2] [] M = if (M 1 8) ≤ v2 then (Rt (some (zI v1)) M) else (Cb (E d 31 [zR 1, zI v2] M) (fun v h => zrun (zevl d) 41 17 [zR 1, zI v1, zI v2] (v.toList ++ []) h)) := by
  refine Eq.trans (s_iloadn f_41_4 rfl) ?_
  refine Eq.trans (s_aloadn f_41_5 rfl) ?_
  refine Eq.trans (s_getI f_41_6 g_41_36 (by decide) kn_1) ?_
  refine Eq.trans (s_icmp (P := (M 1 8) ≤ v2) 30 f_41_9 (by decide) rfl) (ite_cg (fun h1 => ?_) (fun h1 => ?_))
  · refine Eq.trans (s_iloadn f_41_30 rfl) ?_
    exact s_iret f_41_31 t_41
  · refine Eq.trans (s_aloadn f_41_12 rfl) ?_
    refine Eq.trans (s_iloadn f_41_13 rfl) ?_
    exact s_call [zR 1, zI v2] [] f_41_14 rfl c_41_121 rfl rfl (Nat.le_of_ble_eq_true rfl) (by show (zkn SH 1 == zown 31) = true; rw [show zkn SH 1 = 1 from kn_1]; rfl)
theorem q_41_17 {d : Nat} (v1 v2 s0 : Int) (M : ZM) : Q d 41 17 [zR 1, zI v1, zI v2] [zI s0] M = if s0 ≠ 1 then (Q d 41 4 [zR 1, zI v1, zI (zw (v2 + 1))] [] M) else (Q d 41 4 [zR 1, zI (zw (v1 + 1)), zI (zw (v2 + 1))] [] M) := by
  refine Eq.trans (s_iconst f_41_17) ?_
  refine Eq.trans (s_icmp (P := s0 ≠ 1) 24 f_41_18 (by decide) rfl) (ite_cg (fun h1 => ?_) (fun h1 => ?_))
  · refine Eq.trans (s_iinc f_41_24 rfl rfl) ?_
    refine Eq.trans (s_goto 4 f_41_27 (by decide)) ?_
    rfl
  · refine Eq.trans (s_iinc f_41_21 rfl rfl) ?_
    refine Eq.trans (s_iinc f_41_24 rfl rfl) ?_
    refine Eq.trans (s_goto 4 f_41_27 (by decide)) ?_
    rfl
theorem en_41 {d : Nat} (M : ZM) : E (d + 1) 41 [zR 1] M = Q d 41 0 [zR 1, zU, zU] [] M := e_in (Nat.le_of_ble_eq_true rfl)
-- DungeonBuilder$Explorer.survey(LDungeonBuilder$Dungeon;)V
theorem q_43_0 {d : Nat} (M : ZM) : Q d 43 0 [zR 120, zR 1, zU, zU, zU] [] M = Cb (E d 82 [zR 1, zI (M 1 10), zR 121] M) (fun v h => zrun (zevl d) 43 12 [zR 120, zR 1, zU, zU, zU] (v.toList ++ []) h) := by
  refine Eq.trans (s_aloadn f_43_0 rfl) ?_
  refine Eq.trans (s_aloadn f_43_1 rfl) ?_
  refine Eq.trans (s_getI f_43_2 g_43_28 (by decide) kn_1) ?_
  refine Eq.trans (s_aloadn f_43_5 rfl) ?_
  refine Eq.trans (s_getR f_43_6 g_43_9 (by decide) kn_120 rf_120_0) ?_
  exact s_call [zR 1, zI (M 1 10), zR 121] [] f_43_9 rfl c_43_33 rfl rfl (Nat.le_of_ble_eq_true rfl) rfl
theorem q_43_12 {d : Nat} (M : ZM) : Q d 43 12 [zR 120, zR 1, zU, zU, zU] [] M = Q d 43 14 [zR 120, zR 1, zI 0, zU, zU] [] M := by
  refine Eq.trans (s_iconst f_43_12) ?_
  refine Eq.trans (s_istoren f_43_13 rfl) ?_
  rfl
theorem q_43_14 {d : Nat} (v2 : Int) (M : ZM) : Q d 43 14 [zR 120, zR 1, zI v2, zU, zU] [] M = if (M 1 8) ≤ v2 then (if ((zwr M 120 4 0) 1 8) ≠ 0 then (Q d 43 71 [zR 120, zR 1, zI 0, zI ((zwr M 120 4 0) 1 10), zI 0] [] (zwr M 120 4 0)) else (Q d 43 71 [zR 120, zR 1, zI 0, zI (-1), zI 0] [] (zwr M 120 4 0))) else (if 0 ≤ v2 ∧ v2 < 12 then Cb (E d 44 [zR 1, zI v2, zI (M 121 v2)] M) (fun v h => zrun (zevl d) 43 38 [zR 120, zR 1, zI v2, zU, zU] (v.toList ++ [zI v2, zR 122]) h) else none) := by
  refine Eq.trans (s_iloadn f_43_14 rfl) ?_
  refine Eq.trans (s_aloadn f_43_15 rfl) ?_
  refine Eq.trans (s_getI f_43_16 g_43_39 (by decide) kn_1) ?_
  refine Eq.trans (s_icmp (P := (M 1 8) ≤ v2) 45 f_43_19 (by decide) rfl) (ite_cg (fun h1 => ?_) (fun h1 => ?_))
  · refine Eq.trans (s_aloadn f_43_45 rfl) ?_
    refine Eq.trans (s_iconst f_43_46) ?_
    refine Eq.trans (s_putI f_43_47 g_43_24 (by decide) kn_120) ?_
    refine Eq.trans (s_iconst f_43_50) ?_
    refine Eq.trans (s_istoren f_43_51 rfl) ?_
    refine Eq.trans (s_aloadn f_43_52 rfl) ?_
    refine Eq.trans (s_getI f_43_53 g_43_39 (by decide) kn_1) ?_
    refine Eq.trans (s_if (P := ((zwr M 120 4 0) 1 8) ≠ 0) 63 f_43_56 (by decide) rfl) (ite_cg (fun h2 => ?_) (fun h2 => ?_))
    · refine Eq.trans (s_aloadn f_43_63 rfl) ?_
      refine Eq.trans (s_getI f_43_64 g_43_28 (by decide) kn_1) ?_
      refine Eq.trans (s_istoren f_43_67 rfl) ?_
      refine Eq.trans (s_iconst f_43_68) ?_
      refine Eq.trans (s_istore f_43_69 rfl) ?_
      rfl
    · refine Eq.trans (s_iconst f_43_59) ?_
      refine Eq.trans (s_goto 67 f_43_60 (by decide)) ?_
      refine Eq.trans (s_istoren f_43_67 rfl) ?_
      refine Eq.trans (s_iconst f_43_68) ?_
      refine Eq.trans (s_istore f_43_69 rfl) ?_
      rfl
  · refine Eq.trans (s_aloadn f_43_22 rfl) ?_
    refine Eq.trans (s_getR f_43_23 g_43_15 (by decide) kn_120 rf_120_1) ?_
    refine Eq.trans (s_iloadn f_43_26 rfl) ?_
    refine Eq.trans (s_aloadn f_43_27 rfl) ?_
    refine Eq.trans (s_iloadn f_43_28 rfl) ?_
    refine Eq.trans (s_aloadn f_43_29 rfl) ?_
    refine Eq.trans (s_getR f_43_30 g_43_9 (by decide) kn_120 rf_120_0) ?_
    refine Eq.trans (s_iloadn f_43_33 rfl) ?_
    refine Eq.trans (s_iald f_43_34 kn_121 ln_121) (gd_cg fun h3 => ?_)
    exact s_call [zR 1, zI v2, zI (M 121 v2)] [zI v2, zR 122] f_43_35 rfl c_43_42 rfl rfl (Nat.le_of_ble_eq_true rfl) rfl
theorem q_43_38 {d : Nat} (v2 s1 s2 : Int) (M : ZM) : Q d 43 38 [zR 120, zR 1, zI v2, zU, zU] [zI s2, zI s1, zR 122] M = if 0 ≤ s1 ∧ s1 < 12 then Q d 43 14 [zR 120, zR 1, zI (zw (v2 + 1)), zU, zU] [] (zwr M 122 s1 s2) else none := by
  refine Eq.trans (s_iast f_43_38 kn_122 ln_122) (gd_cg fun h1 => ?_)
  refine Eq.trans (s_iinc f_43_39 rfl rfl) ?_
  refine Eq.trans (s_goto 14 f_43_42 (by decide)) ?_
  rfl
theorem q_43_71 {d : Nat} (v2 v3 v4 : Int) (M : ZM) : Q d 43 71 [zR 120, zR 1, zI v2, zI v3, zI v4] [] M = if (M 1 8) ≤ v4 then (Rt none M) else (if v3 = (-1) then (Rt none M) else (if 0 ≤ v4 ∧ v4 < 12 then Cb (E d 45 [zR 120, zR 1, zI (zor v2 (zshl 1 v3))] (zwr (zwr M 123 v4 v3) 120 4 (zw (((zwr M 123 v4 v3) 120 4) + 1)))) (fun v h => zrun (zevl d) 43 115 [zR 120, zR 1, zI (zor v2 (zshl 1 v3)), zI v3, zI v4] (v.toList ++ []) h) else none)) := by
  refine Eq.trans (s_iload f_43_71 rfl) ?_
  refine Eq.trans (s_aloadn f_43_73 rfl) ?_
  refine Eq.trans (s_getI f_43_74 g_43_39 (by decide) kn_1) ?_
  refine Eq.trans (s_icmp (P := (M 1 8) ≤ v4) 122 f_43_77 (by decide) rfl) (ite_cg (fun h1 => ?_) (fun h1 => ?_))
  · exact s_vret f_43_122 t_43
  · refine Eq.trans (s_iloadn f_43_80 rfl) ?_
    refine Eq.trans (s_iconst f_43_81) ?_
    refine Eq.trans (s_icmp (P := v3 = (-1)) 122 f_43_82 (by decide) rfl) (ite_cg (fun h2 => ?_) (fun h2 => ?_))
    · exact s_vret f_43_122 t_43
    · refine Eq.trans (s_aloadn f_43_85 rfl) ?_
      refine Eq.trans (s_getR f_43_86 g_43_18 (by decide) kn_120 rf_120_2) ?_
      refine Eq.trans (s_iload f_43_89 rfl) ?_
      refine Eq.trans (s_iloadn f_43_91 rfl) ?_
      refine Eq.trans (s_iast f_43_92 kn_123 ln_123) (gd_cg fun h3 => ?_)
      refine Eq.trans (s_aloadn f_43_93 rfl) ?_
      refine Eq.trans (s_dup f_43_94 rfl) ?_
      refine Eq.trans (s_getI f_43_95 g_43_24 (by decide) kn_120) ?_
      refine Eq.trans (s_iconst f_43_98) ?_
      refine Eq.trans (s_iadd f_43_99) ?_
      refine Eq.trans (s_putI f_43_100 g_43_24 (by decide) kn_120) ?_
      refine Eq.trans (s_iloadn f_43_103 rfl) ?_
      refine Eq.trans (s_iconst f_43_104) ?_
      refine Eq.trans (s_iloadn f_43_105 rfl) ?_
      refine Eq.trans (s_ishl f_43_106) ?_
      refine Eq.trans (s_ior f_43_107) ?_
      refine Eq.trans (s_istoren f_43_108 rfl) ?_
      refine Eq.trans (s_aloadn f_43_109 rfl) ?_
      refine Eq.trans (s_aloadn f_43_110 rfl) ?_
      refine Eq.trans (s_iloadn f_43_111 rfl) ?_
      exact s_call [zR 120, zR 1, zI (zor v2 (zshl 1 v3))] [] f_43_112 rfl c_43_46 rfl rfl (Nat.le_of_ble_eq_true rfl) (by show (zkn SH 120 == zown 45) = true; rw [show zkn SH 120 = 2 from kn_120]; rfl)
theorem q_43_115 {d : Nat} (v2 v3 v4 s0 : Int) (M : ZM) : Q d 43 115 [zR 120, zR 1, zI v2, zI v3, zI v4] [zI s0] M = Q d 43 71 [zR 120, zR 1, zI v2, zI s0, zI (zw (v4 + 1))] [] M := by
  refine Eq.trans (s_istoren f_43_115 rfl) ?_
  refine Eq.trans (s_iinc f_43_116 rfl rfl) ?_
  refine Eq.trans (s_goto 71 f_43_119 (by decide)) ?_
  rfl
theorem en_43 {d : Nat} (M : ZM) : E (d + 1) 43 [zR 120, zR 1] M = Q d 43 0 [zR 120, zR 1, zU, zU, zU] [] M := e_in (Nat.le_of_ble_eq_true rfl)
-- DungeonBuilder$Explorer.rate(LDungeonBuilder$Dungeon;II)I
theorem q_44_0 {d : Nat} (v1 v2 : Int) (M : ZM) : Q d 44 0 [zR 1, zI v1, zI v2] [] M = if v2 ≠ (-1) then (if (M 1 11) = 0 then (Rt (some (zI (zw (10 * v2)))) M) else (if (M 1 11) = 1 then (Cb (E d 39 [zR 1, zI v1] M) (fun v h => zrun (zevl d) 44 53 [zR 1, zI v1, zI v2] (v.toList ++ [zI (zw (v2 * v2))]) h)) else (Cb (E d 31 [zR 1, zI v1] M) (fun v h => zrun (zevl d) 44 66 [zR 1, zI v1, zI v2] (v.toList ++ [zI 10, zI 100]) h)))) else (Rt (some (zI 500)) M) := by
  refine Eq.trans (s_iloadn f_44_0 rfl) ?_
  refine Eq.trans (s_iconst f_44_1) ?_
  refine Eq.trans (s_icmp (P := v2 ≠ (-1)) 9 f_44_2 (by decide) rfl) (ite_cg (fun h1 => ?_) (fun h1 => ?_))
  · refine Eq.trans (s_aloadn f_44_9 rfl) ?_
    refine Eq.trans (s_getI f_44_10 g_44_50 (by decide) kn_1) ?_
    refine Eq.trans (w_44_13) ?_
    refine ite_cg (fun h3 => ?_) (fun h3 => ?_)
    · refine Eq.trans (s_bipush f_44_40) ?_
      refine Eq.trans (s_iloadn f_44_42 rfl) ?_
      refine Eq.trans (s_imul f_44_43) ?_
      exact s_iret f_44_44 t_44
    refine ite_cg (fun h4 => ?_) (fun h4 => ?_)
    · refine Eq.trans (s_iloadn f_44_45 rfl) ?_
      refine Eq.trans (s_iloadn f_44_46 rfl) ?_
      refine Eq.trans (s_imul f_44_47) ?_
      refine Eq.trans (s_aloadn f_44_48 rfl) ?_
      refine Eq.trans (s_iloadn f_44_49 rfl) ?_
      exact s_call [zR 1, zI v1] [zI (zw (v2 * v2))] f_44_50 rfl c_44_53 rfl rfl (Nat.le_of_ble_eq_true rfl) (by show (zkn SH 1 == zown 39) = true; rw [show zkn SH 1 = 1 from kn_1]; rfl)
    refine Eq.trans (s_bipush f_44_57) ?_
    refine Eq.trans (s_bipush f_44_59) ?_
    refine Eq.trans (s_aloadn f_44_61 rfl) ?_
    refine Eq.trans (s_iloadn f_44_62 rfl) ?_
    exact s_call [zR 1, zI v1] [zI 10, zI 100] f_44_63 rfl c_44_57 rfl rfl (Nat.le_of_ble_eq_true rfl) (by show (zkn SH 1 == zown 31) = true; rw [show zkn SH 1 = 1 from kn_1]; rfl)
  · refine Eq.trans (s_sipush f_44_5) ?_
    exact s_iret f_44_8 t_44
theorem q_44_53 {d : Nat} (v1 v2 s0 s1 : Int) (M : ZM) : Q d 44 53 [zR 1, zI v1, zI v2] [zI s1, zI s0] M = Rt (some (zI (zw (s0 + (zw ((s1).tdiv 4)))))) M := by
  refine Eq.trans (s_iconst f_44_53) ?_
  refine Eq.trans (s_idiv f_44_54) (Eq.trans (if_pos (by decide)) ?_)
  refine Eq.trans (s_iadd f_44_55) ?_
  exact s_iret f_44_56 t_44
theorem q_44_66 {d : Nat} (v1 v2 s0 s1 s2 : Int) (M : ZM) : Q d 44 66 [zR 1, zI v1, zI v2] [zI s2, zI s1, zI s0] M = Rt (some (zI (zw ((zw (s0 - (zw (s1 * s2)))) + v2)))) M := by
  refine Eq.trans (s_imul f_44_66) ?_
  refine Eq.trans (s_isub f_44_67) ?_
  refine Eq.trans (s_iloadn f_44_68 rfl) ?_
  refine Eq.trans (s_iadd f_44_69) ?_
  exact s_iret f_44_70 t_44
theorem en_44 {d : Nat} (v1 v2 : Int) (M : ZM) : E (d + 1) 44 [zR 1, zI v1, zI v2] M = Q d 44 0 [zR 1, zI v1, zI v2] [] M := e_in (Nat.le_of_ble_eq_true rfl)
-- DungeonBuilder$Explorer.easiest(LDungeonBuilder$Dungeon;I)I
theorem q_45_0 {d : Nat} (v2 : Int) (M : ZM) : Q d 45 0 [zR 120, zR 1, zI v2, zU, zU, zU] [] M = Cb (E d 46 [zR 1, zI v2] M) (fun v h => zrun (zevl d) 45 5 [zR 120, zR 1, zI v2, zU, zU, zU] (v.toList ++ []) h) := by
  refine Eq.trans (s_aloadn f_45_0 rfl) ?_
  refine Eq.trans (s_iloadn f_45_1 rfl) ?_
  exact s_call [zR 1, zI v2] [] f_45_2 rfl c_45_60 rfl rfl (Nat.le_of_ble_eq_true rfl) rfl
theorem q_45_5 {d : Nat} (v2 s0 : Int) (M : ZM) : Q d 45 5 [zR 120, zR 1, zI v2, zU, zU, zU] [zI s0] M = Q d 45 12 [zR 120, zR 1, zI v2, zI s0, zI (-1), zI 0] [] M := by
  refine Eq.trans (s_istoren f_45_5 rfl) ?_
  refine Eq.trans (s_iconst f_45_6) ?_
  refine Eq.trans (s_istore f_45_7 rfl) ?_
  refine Eq.trans (s_iconst f_45_9) ?_
  refine Eq.trans (s_istore f_45_10 rfl) ?_
  rfl
theorem q_45_12 {d : Nat} (v2 v3 v4 v5 : Int) (M : ZM) : Q d 45 12 [zR 120, zR 1, zI v2, zI v3, zI v4, zI v5] [] M = if (M 1 8) ≤ v5 then (Rt (some (zI v4)) M) else (Cb (E d 149 [zI v3, zI v5] M) (fun v h => zrun (zevl d) 45 27 [zR 120, zR 1, zI v2, zI v3, zI v4, zI v5] (v.toList ++ []) h)) := by
  refine Eq.trans (s_iload f_45_12 rfl) ?_
  refine Eq.trans (s_aloadn f_45_14 rfl) ?_
  refine Eq.trans (s_getI f_45_15 g_45_39 (by decide) kn_1) ?_
  refine Eq.trans (s_icmp (P := (M 1 8) ≤ v5) 63 f_45_18 (by decide) rfl) (ite_cg (fun h1 => ?_) (fun h1 => ?_))
  · refine Eq.trans (s_iload f_45_63 rfl) ?_
    exact s_iret f_45_65 t_45
  · refine Eq.trans (s_iloadn f_45_21 rfl) ?_
    refine Eq.trans (s_iload f_45_22 rfl) ?_
    exact s_call [zI v3, zI v5] [] f_45_24 rfl c_45_63 rfl rfl (Nat.le_of_ble_eq_true rfl) rfl
theorem q_45_27 {d : Nat} (v2 v3 v4 v5 s0 : Int) (M : ZM) : Q d 45 27 [zR 120, zR 1, zI v2, zI v3, zI v4, zI v5] [zI s0] M = if s0 = 0 then (Q d 45 12 [zR 120, zR 1, zI v2, zI v3, zI v4, zI (zw (v5 + 1))] [] M) else (if v4 = (-1) then (Q d 45 12 [zR 120, zR 1, zI v2, zI v3, zI v5, zI (zw (v5 + 1))] [] M) else (if 0 ≤ v5 ∧ v5 < 12 then if 0 ≤ v4 ∧ v4 < 12 then if (M 122 v4) ≤ (M 122 v5) then (Q d 45 12 [zR 120, zR 1, zI v2, zI v3, zI v4, zI (zw (v5 + 1))] [] M) else (Q d 45 12 [zR 120, zR 1, zI v2, zI v3, zI v5, zI (zw (v5 + 1))] [] M) else none else none)) := by
  refine Eq.trans (s_if (P := s0 = 0) 57 f_45_27 (by decide) rfl) (ite_cg (fun h1 => ?_) (fun h1 => ?_))
  · refine Eq.trans (s_iinc f_45_57 rfl rfl) ?_
    refine Eq.trans (s_goto 12 f_45_60 (by decide)) ?_
    rfl
  · refine Eq.trans (s_iload f_45_30 rfl) ?_
    refine Eq.trans (s_iconst f_45_32) ?_
    refine Eq.trans (s_icmp (P := v4 = (-1)) 53 f_45_33 (by decide) rfl) (ite_cg (fun h2 => ?_) (fun h2 => ?_))
    · refine Eq.trans (s_iload f_45_53 rfl) ?_
      refine Eq.trans (s_istore f_45_55 rfl) ?_
      refine Eq.trans (s_iinc f_45_57 rfl rfl) ?_
      refine Eq.trans (s_goto 12 f_45_60 (by decide)) ?_
      rfl
    · refine Eq.trans (s_aloadn f_45_36 rfl) ?_
      refine Eq.trans (s_getR f_45_37 g_45_15 (by decide) kn_120 rf_120_1) ?_
      refine Eq.trans (s_iload f_45_40 rfl) ?_
      refine Eq.trans (s_iald f_45_42 kn_122 ln_122) (gd_cg fun h3 => ?_)
      refine Eq.trans (s_aloadn f_45_43 rfl) ?_
      refine Eq.trans (s_getR f_45_44 g_45_15 (by decide) kn_120 rf_120_1) ?_
      refine Eq.trans (s_iload f_45_47 rfl) ?_
      refine Eq.trans (s_iald f_45_49 kn_122 ln_122) (gd_cg fun h4 => ?_)
      refine Eq.trans (s_icmp (P := (M 122 v4) ≤ (M 122 v5)) 57 f_45_50 (by decide) rfl) (ite_cg (fun h5 => ?_) (fun h5 => ?_))
      · refine Eq.trans (s_iinc f_45_57 rfl rfl) ?_
        refine Eq.trans (s_goto 12 f_45_60 (by decide)) ?_
        rfl
      · refine Eq.trans (s_iload f_45_53 rfl) ?_
        refine Eq.trans (s_istore f_45_55 rfl) ?_
        refine Eq.trans (s_iinc f_45_57 rfl rfl) ?_
        refine Eq.trans (s_goto 12 f_45_60 (by decide)) ?_
        rfl
theorem en_45 {d : Nat} (v2 : Int) (M : ZM) : E (d + 1) 45 [zR 120, zR 1, zI v2] M = Q d 45 0 [zR 120, zR 1, zI v2, zU, zU, zU] [] M := e_in (Nat.le_of_ble_eq_true rfl)
-- DungeonBuilder$Explorer.bordering(LDungeonBuilder$Dungeon;I)I
theorem q_46_0 {d : Nat} (v1 : Int) (M : ZM) : Q d 46 0 [zR 1, zI v1, zU, zU, zU, zU] [] M = Cb (E d 78 [zR 1, zI v1] M) (fun v h => zrun (zevl d) 46 5 [zR 1, zI v1, zU, zU, zU, zU] (v.toList ++ []) h) := by
  refine Eq.trans (s_aloadn f_46_0 rfl) ?_
  refine Eq.trans (s_iloadn f_46_1 rfl) ?_
  exact s_call [zR 1, zI v1] [] f_46_2 rfl c_46_67 rfl rfl (Nat.le_of_ble_eq_true rfl) rfl
theorem q_46_5 {d : Nat} (v1 s0 : Int) (M : ZM) : Q d 46 5 [zR 1, zI v1, zU, zU, zU, zU] [zI s0] M = Q d 46 11 [zR 1, zI v1, zI s0, zI 0, zI 0, zU] [] M := by
  refine Eq.trans (s_istoren f_46_5 rfl) ?_
  refine Eq.trans (s_iconst f_46_6) ?_
  refine Eq.trans (s_istoren f_46_7 rfl) ?_
  refine Eq.trans (s_iconst f_46_8) ?_
  refine Eq.trans (s_istore f_46_9 rfl) ?_
  rfl
theorem q_46_11 {d : Nat} (v1 v2 v3 v4 : Int) (z5 : ZV) (M : ZM) : Q d 46 11 [zR 1, zI v1, zI v2, zI v3, zI v4, z5] [] M = if (M 1 9) ≤ v4 then (Rt (some (zI (zand v3 (zxor v1 (-1))))) M) else (if 0 ≤ v4 ∧ v4 < 20 then if 0 ≤ v4 ∧ v4 < 20 then if (zand (zor (zshl 1 (M 7 v4)) (zshl 1 (M 8 v4))) v1) = 0 then (Q d 46 11 [zR 1, zI v1, zI v2, zI v3, zI (zw (v4 + 1)), zI (zor (zshl 1 (M 7 v4)) (zshl 1 (M 8 v4)))] [] M) else (Cb (E d 35 [zR 1, zI v4, zI v2] M) (fun v h => zrun (zevl d) 46 55 [zR 1, zI v1, zI v2, zI v3, zI v4, zI (zor (zshl 1 (M 7 v4)) (zshl 1 (M 8 v4)))] (v.toList ++ []) h)) else none else none) := by
  refine Eq.trans (s_iload f_46_11 rfl) ?_
  refine Eq.trans (s_aloadn f_46_13 rfl) ?_
  refine Eq.trans (s_getI f_46_14 g_46_70 (by decide) kn_1) ?_
  refine Eq.trans (s_icmp (P := (M 1 9) ≤ v4) 69 f_46_17 (by decide) rfl) (ite_cg (fun h1 => ?_) (fun h1 => ?_))
  · refine Eq.trans (s_iloadn f_46_69 rfl) ?_
    refine Eq.trans (s_iloadn f_46_70 rfl) ?_
    refine Eq.trans (s_iconst f_46_71) ?_
    refine Eq.trans (s_ixor f_46_72) ?_
    refine Eq.trans (s_iand f_46_73) ?_
    exact s_iret f_46_74 t_46
  · refine Eq.trans (s_iconst f_46_20) ?_
    refine Eq.trans (s_aloadn f_46_21 rfl) ?_
    refine Eq.trans (s_getR f_46_22 g_46_73 (by decide) kn_1 rf_1_5) ?_
    refine Eq.trans (s_iload f_46_25 rfl) ?_
    refine Eq.trans (s_iald f_46_27 kn_7 ln_7) (gd_cg fun h2 => ?_)
    refine Eq.trans (s_ishl f_46_28) ?_
    refine Eq.trans (s_iconst f_46_29) ?_
    refine Eq.trans (s_aloadn f_46_30 rfl) ?_
    refine Eq.trans (s_getR f_46_31 g_46_76 (by decide) kn_1 rf_1_6) ?_
    refine Eq.trans (s_iload f_46_34 rfl) ?_
    refine Eq.trans (s_iald f_46_36 kn_8 ln_8) (gd_cg fun h3 => ?_)
    refine Eq.trans (s_ishl f_46_37) ?_
    refine Eq.trans (s_ior f_46_38) ?_
    refine Eq.trans (s_istore f_46_39 rfl) ?_
    refine Eq.trans (s_iload f_46_41 rfl) ?_
    refine Eq.trans (s_iloadn f_46_43 rfl) ?_
    refine Eq.trans (s_iand f_46_44) ?_
    refine Eq.trans (s_if (P := (zand (zor (zshl 1 (M 7 v4)) (zshl 1 (M 8 v4))) v1) = 0) 63 f_46_45 (by decide) rfl) (ite_cg (fun h4 => ?_) (fun h4 => ?_))
    · refine Eq.trans (s_iinc f_46_63 rfl rfl) ?_
      refine Eq.trans (s_goto 11 f_46_66 (by decide)) ?_
      rfl
    · refine Eq.trans (s_aloadn f_46_48 rfl) ?_
      refine Eq.trans (s_iload f_46_49 rfl) ?_
      refine Eq.trans (s_iloadn f_46_51 rfl) ?_
      exact s_call [zR 1, zI v4, zI v2] [] f_46_52 rfl c_46_79 rfl rfl (Nat.le_of_ble_eq_true rfl) (by show (zkn SH 1 == zown 35) = true; rw [show zkn SH 1 = 1 from kn_1]; rfl)
theorem q_46_55 {d : Nat} (v1 v2 v3 v4 v5 s0 : Int) (M : ZM) : Q d 46 55 [zR 1, zI v1, zI v2, zI v3, zI v4, zI v5] [zI s0] M = if s0 = 0 then (Q d 46 11 [zR 1, zI v1, zI v2, zI v3, zI (zw (v4 + 1)), zI v5] [] M) else (Q d 46 11 [zR 1, zI v1, zI v2, zI (zor v3 v5), zI (zw (v4 + 1)), zI v5] [] M) := by
  refine Eq.trans (s_if (P := s0 = 0) 63 f_46_55 (by decide) rfl) (ite_cg (fun h1 => ?_) (fun h1 => ?_))
  · refine Eq.trans (s_iinc f_46_63 rfl rfl) ?_
    refine Eq.trans (s_goto 11 f_46_66 (by decide)) ?_
    rfl
  · refine Eq.trans (s_iloadn f_46_58 rfl) ?_
    refine Eq.trans (s_iload f_46_59 rfl) ?_
    refine Eq.trans (s_ior f_46_61) ?_
    refine Eq.trans (s_istoren f_46_62 rfl) ?_
    refine Eq.trans (s_iinc f_46_63 rfl rfl) ?_
    refine Eq.trans (s_goto 11 f_46_66 (by decide)) ?_
    rfl
theorem en_46 {d : Nat} (v1 : Int) (M : ZM) : E (d + 1) 46 [zR 1, zI v1] M = Q d 46 0 [zR 1, zI v1, zU, zU, zU, zU] [] M := e_in (Nat.le_of_ble_eq_true rfl)
-- DungeonBuilder$Explorer.hasVisit(I)Z
theorem q_47_0 {d : Nat} (v1 : Int) (M : ZM) : Q d 47 0 [zR 120, zI v1] [] M = if v1 < 0 then (Rt (some (zI 0)) M) else (if (M 120 4) ≤ v1 then (Rt (some (zI 0)) M) else (Rt (some (zI 1)) M)) := by
  refine Eq.trans (s_iloadn f_47_0 rfl) ?_
  refine Eq.trans (s_if (P := v1 < 0) 16 f_47_1 (by decide) rfl) (ite_cg (fun h1 => ?_) (fun h1 => ?_))
  · refine Eq.trans (s_iconst f_47_16) ?_
    exact s_zret f_47_17 t_47 (by decide)
  · refine Eq.trans (s_iloadn f_47_4 rfl) ?_
    refine Eq.trans (s_aloadn f_47_5 rfl) ?_
    refine Eq.trans (s_getI f_47_6 g_47_24 (by decide) kn_120) ?_
    refine Eq.trans (s_icmp (P := (M 120 4) ≤ v1) 16 f_47_9 (by decide) rfl) (ite_cg (fun h2 => ?_) (fun h2 => ?_))
    · refine Eq.trans (s_iconst f_47_16) ?_
      exact s_zret f_47_17 t_47 (by decide)
    · refine Eq.trans (s_iconst f_47_12) ?_
      refine Eq.trans (s_goto 17 f_47_13 (by decide)) ?_
      exact s_zret f_47_17 t_47 (by decide)
theorem en_47 {d : Nat} (v1 : Int) (M : ZM) : E (d + 1) 47 [zR 120, zI v1] M = Q d 47 0 [zR 120, zI v1] [] M := e_in (Nat.le_of_ble_eq_true rfl)
-- DungeonBuilder$Explorer.positionOf(I)I
theorem q_48_0 {d : Nat} (v1 : Int) (M : ZM) : Q d 48 0 [zR 120, zI v1, zU] [] M = Q d 48 2 [zR 120, zI v1, zI 0] [] M := by
  refine Eq.trans (s_iconst f_48_0) ?_
  refine Eq.trans (s_istoren f_48_1 rfl) ?_
  rfl
theorem q_48_2 {d : Nat} (v1 v2 : Int) (M : ZM) : Q d 48 2 [zR 120, zI v1, zI v2] [] M = if (M 120 4) ≤ v2 then (Rt (some (zI (-104))) M) else (if 0 ≤ v2 ∧ v2 < 12 then if (M 123 v2) ≠ v1 then (Q d 48 2 [zR 120, zI v1, zI (zw (v2 + 1))] [] M) else (Rt (some (zI v2)) M) else none) := by
  refine Eq.trans (s_iloadn f_48_2 rfl) ?_
  refine Eq.trans (s_aloadn f_48_3 rfl) ?_
  refine Eq.trans (s_getI f_48_4 g_48_24 (by decide) kn_120) ?_
  refine Eq.trans (s_icmp (P := (M 120 4) ≤ v2) 28 f_48_7 (by decide) rfl) (ite_cg (fun h1 => ?_) (fun h1 => ?_))
  · refine Eq.trans (s_bipush f_48_28) ?_
    exact s_iret f_48_30 t_48
  · refine Eq.trans (s_aloadn f_48_10 rfl) ?_
    refine Eq.trans (s_getR f_48_11 g_48_18 (by decide) kn_120 rf_120_2) ?_
    refine Eq.trans (s_iloadn f_48_14 rfl) ?_
    refine Eq.trans (s_iald f_48_15 kn_123 ln_123) (gd_cg fun h2 => ?_)
    refine Eq.trans (s_iloadn f_48_16 rfl) ?_
    refine Eq.trans (s_icmp (P := (M 123 v2) ≠ v1) 22 f_48_17 (by decide) rfl) (ite_cg (fun h3 => ?_) (fun h3 => ?_))
    · refine Eq.trans (s_iinc f_48_22 rfl rfl) ?_
      refine Eq.trans (s_goto 2 f_48_25 (by decide)) ?_
      rfl
    · refine Eq.trans (s_iloadn f_48_20 rfl) ?_
      exact s_iret f_48_21 t_48
theorem en_48 {d : Nat} (v1 : Int) (M : ZM) : E (d + 1) 48 [zR 120, zI v1] M = Q d 48 0 [zR 120, zI v1, zU] [] M := e_in (Nat.le_of_ble_eq_true rfl)
-- DungeonBuilder$Explorer.rise(I)I
theorem q_49_0 {d : Nat} (v1 : Int) (M : ZM) : Q d 49 0 [zR 120, zI v1] [] M = if 0 ≤ v1 ∧ v1 < 12 then if 0 ≤ (M 123 v1) ∧ (M 123 v1) < 12 then if 0 ≤ (zw (v1 - 1)) ∧ (zw (v1 - 1)) < 12 then if 0 ≤ (M 123 (zw (v1 - 1))) ∧ (M 123 (zw (v1 - 1))) < 12 then Rt (some (zI (zw ((M 122 (M 123 v1)) - (M 122 (M 123 (zw (v1 - 1)))))))) M else none else none else none else none := by
  refine Eq.trans (s_aloadn f_49_0 rfl) ?_
  refine Eq.trans (s_getR f_49_1 g_49_15 (by decide) kn_120 rf_120_1) ?_
  refine Eq.trans (s_aloadn f_49_4 rfl) ?_
  refine Eq.trans (s_getR f_49_5 g_49_18 (by decide) kn_120 rf_120_2) ?_
  refine Eq.trans (s_iloadn f_49_8 rfl) ?_
  refine Eq.trans (s_iald f_49_9 kn_123 ln_123) (gd_cg fun h1 => ?_)
  refine Eq.trans (s_iald f_49_10 kn_122 ln_122) (gd_cg fun h2 => ?_)
  refine Eq.trans (s_aloadn f_49_11 rfl) ?_
  refine Eq.trans (s_getR f_49_12 g_49_15 (by decide) kn_120 rf_120_1) ?_
  refine Eq.trans (s_aloadn f_49_15 rfl) ?_
  refine Eq.trans (s_getR f_49_16 g_49_18 (by decide) kn_120 rf_120_2) ?_
  refine Eq.trans (s_iloadn f_49_19 rfl) ?_
  refine Eq.trans (s_iconst f_49_20) ?_
  refine Eq.trans (s_isub f_49_21) ?_
  refine Eq.trans (s_iald f_49_22 kn_123 ln_123) (gd_cg fun h3 => ?_)
  refine Eq.trans (s_iald f_49_23 kn_122 ln_122) (gd_cg fun h4 => ?_)
  refine Eq.trans (s_isub f_49_24) ?_
  exact s_iret f_49_25 t_49
theorem en_49 {d : Nat} (v1 : Int) (M : ZM) : E (d + 1) 49 [zR 120, zI v1] M = Q d 49 0 [zR 120, zI v1] [] M := e_in (Nat.le_of_ble_eq_true rfl)
-- DungeonBuilder$Explorer.wayBack(LDungeonBuilder$Dungeon;)I
theorem q_50_0 {d : Nat} (M : ZM) : Q d 50 0 [zR 120, zR 1, zU, zU] [] M = Q d 50 4 [zR 120, zR 1, zI 0, zI 1] [] M := by
  refine Eq.trans (s_iconst f_50_0) ?_
  refine Eq.trans (s_istoren f_50_1 rfl) ?_
  refine Eq.trans (s_iconst f_50_2) ?_
  refine Eq.trans (s_istoren f_50_3 rfl) ?_
  rfl
theorem q_50_4 {d : Nat} (v2 v3 : Int) (M : ZM) : Q d 50 4 [zR 120, zR 1, zI v2, zI v3] [] M = if (M 120 4) ≤ v3 then (Rt (some (zI v2)) M) else (if 0 ≤ (zw (v3 - 1)) ∧ (zw (v3 - 1)) < 12 then Cb (E d 82 [zR 1, zI (M 123 (zw (v3 - 1))), zR 124] M) (fun v h => zrun (zevl d) 50 28 [zR 120, zR 1, zI v2, zI v3] (v.toList ++ []) h) else none) := by
  refine Eq.trans (s_iloadn f_50_4 rfl) ?_
  refine Eq.trans (s_aloadn f_50_5 rfl) ?_
  refine Eq.trans (s_getI f_50_6 g_50_24 (by decide) kn_120) ?_
  refine Eq.trans (s_icmp (P := (M 120 4) ≤ v3) 48 f_50_9 (by decide) rfl) (ite_cg (fun h1 => ?_) (fun h1 => ?_))
  · refine Eq.trans (s_iloadn f_50_48 rfl) ?_
    exact s_iret f_50_49 t_50
  · refine Eq.trans (s_aloadn f_50_12 rfl) ?_
    refine Eq.trans (s_aloadn f_50_13 rfl) ?_
    refine Eq.trans (s_getR f_50_14 g_50_18 (by decide) kn_120 rf_120_2) ?_
    refine Eq.trans (s_iloadn f_50_17 rfl) ?_
    refine Eq.trans (s_iconst f_50_18) ?_
    refine Eq.trans (s_isub f_50_19) ?_
    refine Eq.trans (s_iald f_50_20 kn_123 ln_123) (gd_cg fun h2 => ?_)
    refine Eq.trans (s_aloadn f_50_21 rfl) ?_
    refine Eq.trans (s_getR f_50_22 g_50_21 (by decide) kn_120 rf_120_3) ?_
    exact s_call [zR 1, zI (M 123 (zw (v3 - 1))), zR 124] [] f_50_25 rfl c_50_33 rfl rfl (Nat.le_of_ble_eq_true rfl) rfl
theorem q_50_28 {d : Nat} (v2 v3 : Int) (M : ZM) : Q d 50 28 [zR 120, zR 1, zI v2, zI v3] [] M = if 0 ≤ v3 ∧ v3 < 12 then if 0 ≤ (M 123 v3) ∧ (M 123 v3) < 12 then Q d 50 4 [zR 120, zR 1, zI (zw (v2 + (M 124 (M 123 v3)))), zI (zw (v3 + 1))] [] M else none else none := by
  refine Eq.trans (s_iloadn f_50_28 rfl) ?_
  refine Eq.trans (s_aloadn f_50_29 rfl) ?_
  refine Eq.trans (s_getR f_50_30 g_50_21 (by decide) kn_120 rf_120_3) ?_
  refine Eq.trans (s_aloadn f_50_33 rfl) ?_
  refine Eq.trans (s_getR f_50_34 g_50_18 (by decide) kn_120 rf_120_2) ?_
  refine Eq.trans (s_iloadn f_50_37 rfl) ?_
  refine Eq.trans (s_iald f_50_38 kn_123 ln_123) (gd_cg fun h1 => ?_)
  refine Eq.trans (s_iald f_50_39 kn_124 ln_124) (gd_cg fun h2 => ?_)
  refine Eq.trans (s_iadd f_50_40) ?_
  refine Eq.trans (s_istoren f_50_41 rfl) ?_
  refine Eq.trans (s_iinc f_50_42 rfl rfl) ?_
  refine Eq.trans (s_goto 4 f_50_45 (by decide)) ?_
  rfl
theorem en_50 {d : Nat} (M : ZM) : E (d + 1) 50 [zR 120, zR 1] M = Q d 50 0 [zR 120, zR 1, zU, zU] [] M := e_in (Nat.le_of_ble_eq_true rfl)
-- DungeonBuilder$FloorPlan.draw(LDungeonBuilder$Dungeon;)V
theorem q_52_0 {d : Nat} (M : ZM) : Q d 52 0 [zR 132, zR 1, zU] [] M = Cb (E d 254 [zR 133, zI (-1)] M) (fun v h => zrun (zevl d) 52 8 [zR 132, zR 1, zU] (v.toList ++ []) h) := by
  refine Eq.trans (s_aloadn f_52_0 rfl) ?_
  refine Eq.trans (s_getR f_52_1 g_52_9 (by decide) kn_132 rf_132_0) ?_
  refine Eq.trans (s_iconst f_52_4) ?_
  exact s_call [zR 133, zI (-1)] [] f_52_5 rfl c_52_31 rfl rfl (Nat.le_of_ble_eq_true rfl) rfl
theorem q_52_8 {d : Nat} (M : ZM) : Q d 52 8 [zR 132, zR 1, zU] [] M = Cb (E d 254 [zR 134, zI (-1)] M) (fun v h => zrun (zevl d) 52 16 [zR 132, zR 1, zU] (v.toList ++ []) h) := by
  refine Eq.trans (s_aloadn f_52_8 rfl) ?_
  refine Eq.trans (s_getR f_52_9 g_52_15 (by decide) kn_132 rf_132_1) ?_
  refine Eq.trans (s_iconst f_52_12) ?_
  exact s_call [zR 134, zI (-1)] [] f_52_13 rfl c_52_31 rfl rfl (Nat.le_of_ble_eq_true rfl) rfl
theorem q_52_16 {d : Nat} (M : ZM) : Q d 52 16 [zR 132, zR 1, zU] [] M = Cb (E d 254 [zR 135, zI (-1)] M) (fun v h => zrun (zevl d) 52 24 [zR 132, zR 1, zU] (v.toList ++ []) h) := by
  refine Eq.trans (s_aloadn f_52_16 rfl) ?_
  refine Eq.trans (s_getR f_52_17 g_52_18 (by decide) kn_132 rf_132_2) ?_
  refine Eq.trans (s_iconst f_52_20) ?_
  exact s_call [zR 135, zI (-1)] [] f_52_21 rfl c_52_31 rfl rfl (Nat.le_of_ble_eq_true rfl) rfl
theorem q_52_24 {d : Nat} (M : ZM) : Q d 52 24 [zR 132, zR 1, zU] [] M = Q d 52 26 [zR 132, zR 1, zI 0] [] M := by
  refine Eq.trans (s_iconst f_52_24) ?_
  refine Eq.trans (s_istoren f_52_25 rfl) ?_
  rfl
theorem q_52_26 {d : Nat} (v2 : Int) (M : ZM) : Q d 52 26 [zR 132, zR 1, zI v2] [] M = if (M 1 8) ≤ v2 then (Q d 52 53 [zR 132, zR 1, zI (zw ((M 1 9) - 1))] [] M) else (Cb (E d 53 [zR 132, zR 1, zI v2] M) (fun v h => zrun (zevl d) 52 40 [zR 132, zR 1, zI v2] (v.toList ++ []) h)) := by
  refine Eq.trans (s_iloadn f_52_26 rfl) ?_
  refine Eq.trans (s_aloadn f_52_27 rfl) ?_
  refine Eq.trans (s_getI f_52_28 g_52_37 (by decide) kn_1) ?_
  refine Eq.trans (s_icmp (P := (M 1 8) ≤ v2) 46 f_52_31 (by decide) rfl) (ite_cg (fun h1 => ?_) (fun h1 => ?_))
  · refine Eq.trans (s_aloadn f_52_46 rfl) ?_
    refine Eq.trans (s_getI f_52_47 g_52_46 (by decide) kn_1) ?_
    refine Eq.trans (s_iconst f_52_50) ?_
    refine Eq.trans (s_isub f_52_51) ?_
    refine Eq.trans (s_istoren f_52_52 rfl) ?_
    rfl
  · refine Eq.trans (s_aloadn f_52_34 rfl) ?_
    refine Eq.trans (s_aloadn f_52_35 rfl) ?_
    refine Eq.trans (s_iloadn f_52_36 rfl) ?_
    exact s_call [zR 132, zR 1, zI v2] [] f_52_37 rfl c_52_42 rfl rfl (Nat.le_of_ble_eq_true rfl) (by show (zkn SH 132 == zown 53) = true; rw [show zkn SH 132 = 3 from kn_132]; rfl)
theorem q_52_40 {d : Nat} (v2 : Int) (M : ZM) : Q d 52 40 [zR 132, zR 1, zI v2] [] M = Q d 52 26 [zR 132, zR 1, zI (zw (v2 + 1))] [] M := by
  refine Eq.trans (s_iinc f_52_40 rfl rfl) ?_
  refine Eq.trans (s_goto 26 f_52_43 (by decide)) ?_
  rfl
theorem q_52_53 {d : Nat} (v2 : Int) (M : ZM) : Q d 52 53 [zR 132, zR 1, zI v2] [] M = if v2 < 0 then (Rt none M) else (Cb (E d 54 [zR 132, zR 1, zI v2] M) (fun v h => zrun (zevl d) 52 63 [zR 132, zR 1, zI v2] (v.toList ++ []) h)) := by
  refine Eq.trans (s_iloadn f_52_53 rfl) ?_
  refine Eq.trans (s_if (P := v2 < 0) 69 f_52_54 (by decide) rfl) (ite_cg (fun h1 => ?_) (fun h1 => ?_))
  · exact s_vret f_52_69 t_52
  · refine Eq.trans (s_aloadn f_52_57 rfl) ?_
    refine Eq.trans (s_aloadn f_52_58 rfl) ?_
    refine Eq.trans (s_iloadn f_52_59 rfl) ?_
    exact s_call [zR 132, zR 1, zI v2] [] f_52_60 rfl c_52_49 rfl rfl (Nat.le_of_ble_eq_true rfl) (by show (zkn SH 132 == zown 54) = true; rw [show zkn SH 132 = 3 from kn_132]; rfl)
theorem q_52_63 {d : Nat} (v2 : Int) (M : ZM) : Q d 52 63 [zR 132, zR 1, zI v2] [] M = Q d 52 53 [zR 132, zR 1, zI (zw (v2 + (-1)))] [] M := by
  refine Eq.trans (s_iinc f_52_63 rfl rfl) ?_
  refine Eq.trans (s_goto 53 f_52_66 (by decide)) ?_
  rfl
theorem en_52 {d : Nat} (M : ZM) : E (d + 1) 52 [zR 132, zR 1] M = Q d 52 0 [zR 132, zR 1, zU] [] M := e_in (Nat.le_of_ble_eq_true rfl)
-- DungeonBuilder$FloorPlan.drawRoom(LDungeonBuilder$Dungeon;I)V
theorem q_53_0 {d : Nat} (v2 : Int) (M : ZM) : Q d 53 0 [zR 132, zR 1, zI v2, zU, zU, zU] [] M = Q d 53 2 [zR 132, zR 1, zI v2, zI 0, zU, zU] [] M := by
  refine Eq.trans (s_iconst f_53_0) ?_
  refine Eq.trans (s_istoren f_53_1 rfl) ?_
  rfl
theorem q_53_2 {d : Nat} (v2 v3 : Int) (z4 z5 : ZV) (M : ZM) : Q d 53 2 [zR 132, zR 1, zI v2, zI v3, z4, z5] [] M = if 0 ≤ v2 ∧ v2 < 12 then if (M 5 v2) ≤ v3 then (Rt none M) else (Q d 53 15 [zR 132, zR 1, zI v2, zI v3, zI 0, z5] [] M) else none := by
  refine Eq.trans (s_iloadn f_53_2 rfl) ?_
  refine Eq.trans (s_aloadn f_53_3 rfl) ?_
  refine Eq.trans (s_getR f_53_4 g_53_52 (by decide) kn_1 rf_1_3) ?_
  refine Eq.trans (s_iloadn f_53_7 rfl) ?_
  refine Eq.trans (s_iald f_53_8 kn_5 ln_5) (gd_cg fun h1 => ?_)
  refine Eq.trans (s_icmp (P := (M 5 v2) ≤ v3) 74 f_53_9 (by decide) rfl) (ite_cg (fun h2 => ?_) (fun h2 => ?_))
  · exact s_vret f_53_74 t_53
  · refine Eq.trans (s_iconst f_53_12) ?_
    refine Eq.trans (s_istore f_53_13 rfl) ?_
    rfl
theorem q_53_15 {d : Nat} (v2 v3 v4 : Int) (z5 : ZV) (M : ZM) : Q d 53 15 [zR 132, zR 1, zI v2, zI v3, zI v4, z5] [] M = if 0 ≤ v2 ∧ v2 < 12 then if (M 4 v2) ≤ v4 then (Q d 53 2 [zR 132, zR 1, zI v2, zI (zw (v3 + 1)), zI v4, z5] [] M) else (if 0 ≤ v2 ∧ v2 < 12 then if 0 ≤ v2 ∧ v2 < 12 then Cb (E d 150 [zI (zw ((M 2 v2) + v4)), zI (zw ((M 3 v2) + v3))] M) (fun v h => zrun (zevl d) 53 46 [zR 132, zR 1, zI v2, zI v3, zI v4, z5] (v.toList ++ []) h) else none else none) else none := by
  refine Eq.trans (s_iload f_53_15 rfl) ?_
  refine Eq.trans (s_aloadn f_53_17 rfl) ?_
  refine Eq.trans (s_getR f_53_18 g_53_55 (by decide) kn_1 rf_1_2) ?_
  refine Eq.trans (s_iloadn f_53_21 rfl) ?_
  refine Eq.trans (s_iald f_53_22 kn_4 ln_4) (gd_cg fun h1 => ?_)
  refine Eq.trans (s_icmp (P := (M 4 v2) ≤ v4) 68 f_53_23 (by decide) rfl) (ite_cg (fun h2 => ?_) (fun h2 => ?_))
  · refine Eq.trans (s_iinc f_53_68 rfl rfl) ?_
    refine Eq.trans (s_goto 2 f_53_71 (by decide)) ?_
    rfl
  · refine Eq.trans (s_aloadn f_53_26 rfl) ?_
    refine Eq.trans (s_getR f_53_27 g_53_58 (by decide) kn_1 rf_1_0) ?_
    refine Eq.trans (s_iloadn f_53_30 rfl) ?_
    refine Eq.trans (s_iald f_53_31 kn_2 ln_2) (gd_cg fun h3 => ?_)
    refine Eq.trans (s_iload f_53_32 rfl) ?_
    refine Eq.trans (s_iadd f_53_34) ?_
    refine Eq.trans (s_aloadn f_53_35 rfl) ?_
    refine Eq.trans (s_getR f_53_36 g_53_61 (by decide) kn_1 rf_1_1) ?_
    refine Eq.trans (s_iloadn f_53_39 rfl) ?_
    refine Eq.trans (s_iald f_53_40 kn_3 ln_3) (gd_cg fun h4 => ?_)
    refine Eq.trans (s_iloadn f_53_41 rfl) ?_
    refine Eq.trans (s_iadd f_53_42) ?_
    exact s_call [zI (zw ((M 2 v2) + v4)), zI (zw ((M 3 v2) + v3))] [] f_53_43 rfl c_53_64 rfl rfl (Nat.le_of_ble_eq_true rfl) rfl
theorem q_53_46 {d : Nat} (v2 v3 v4 s0 : Int) (z5 : ZV) (M : ZM) : Q d 53 46 [zR 132, zR 1, zI v2, zI v3, zI v4, z5] [zI s0] M = if s0 = (-1) then (Q d 53 15 [zR 132, zR 1, zI v2, zI v3, zI (zw (v4 + 1)), zI s0] [] M) else (if 0 ≤ s0 ∧ s0 < 384 then Q d 53 15 [zR 132, zR 1, zI v2, zI v3, zI (zw (v4 + 1)), zI s0] [] (zwr M 133 s0 v2) else none) := by
  refine Eq.trans (s_istore f_53_46 rfl) ?_
  refine Eq.trans (s_iload f_53_48 rfl) ?_
  refine Eq.trans (s_iconst f_53_50) ?_
  refine Eq.trans (s_icmp (P := s0 = (-1)) 62 f_53_51 (by decide) rfl) (ite_cg (fun h1 => ?_) (fun h1 => ?_))
  · refine Eq.trans (s_iinc f_53_62 rfl rfl) ?_
    refine Eq.trans (s_goto 15 f_53_65 (by decide)) ?_
    rfl
  · refine Eq.trans (s_aloadn f_53_54 rfl) ?_
    refine Eq.trans (s_getR f_53_55 g_53_9 (by decide) kn_132 rf_132_0) ?_
    refine Eq.trans (s_iload f_53_58 rfl) ?_
    refine Eq.trans (s_iloadn f_53_60 rfl) ?_
    refine Eq.trans (s_iast f_53_61 kn_133 ln_133) (gd_cg fun h2 => ?_)
    refine Eq.trans (s_iinc f_53_62 rfl rfl) ?_
    refine Eq.trans (s_goto 15 f_53_65 (by decide)) ?_
    rfl
theorem en_53 {d : Nat} (v2 : Int) (M : ZM) : E (d + 1) 53 [zR 132, zR 1, zI v2] M = Q d 53 0 [zR 132, zR 1, zI v2, zU, zU, zU] [] M := e_in (Nat.le_of_ble_eq_true rfl)
-- DungeonBuilder$FloorPlan.drawCorridor(LDungeonBuilder$Dungeon;I)V
theorem q_54_0 {d : Nat} (v2 : Int) (M : ZM) : Q d 54 0 [zR 132, zR 1, zI v2, zU, zU, zU] [] M = if 0 ≤ v2 ∧ v2 < 20 then if 0 ≤ v2 ∧ v2 < 20 then Cb (E d 34 [zR 1, zI (M 7 v2), zI (M 8 v2)] M) (fun v h => zrun (zevl d) 54 16 [zR 132, zR 1, zI v2, zU, zU, zU] (v.toList ++ []) h) else none else none := by
  refine Eq.trans (s_aloadn f_54_0 rfl) ?_
  refine Eq.trans (s_aloadn f_54_1 rfl) ?_
  refine Eq.trans (s_getR f_54_2 g_54_68 (by decide) kn_1 rf_1_5) ?_
  refine Eq.trans (s_iloadn f_54_5 rfl) ?_
  refine Eq.trans (s_iald f_54_6 kn_7 ln_7) (gd_cg fun h1 => ?_)
  refine Eq.trans (s_aloadn f_54_7 rfl) ?_
  refine Eq.trans (s_getR f_54_8 g_54_71 (by decide) kn_1 rf_1_6) ?_
  refine Eq.trans (s_iloadn f_54_11 rfl) ?_
  refine Eq.trans (s_iald f_54_12 kn_8 ln_8) (gd_cg fun h2 => ?_)
  exact s_call [zR 1, zI (M 7 v2), zI (M 8 v2)] [] f_54_13 rfl c_54_74 rfl rfl (Nat.le_of_ble_eq_true rfl) (by show (zkn SH 1 == zown 34) = true; rw [show zkn SH 1 = 1 from kn_1]; rfl)
theorem q_54_16 {d : Nat} (v2 s0 : Int) (M : ZM) : Q d 54 16 [zR 132, zR 1, zI v2, zU, zU, zU] [zI s0] M = Q d 54 20 [zR 132, zR 1, zI v2, zI s0, zI 0, zU] [] M := by
  refine Eq.trans (s_istoren f_54_16 rfl) ?_
  refine Eq.trans (s_iconst f_54_17) ?_
  refine Eq.trans (s_istore f_54_18 rfl) ?_
  rfl
theorem q_54_20 {d : Nat} (v2 v3 v4 : Int) (z5 : ZV) (M : ZM) : Q d 54 20 [zR 132, zR 1, zI v2, zI v3, zI v4, z5] [] M = if v3 < v4 then (Rt none M) else (Cb (E d 55 [zR 1, zI v2, zI v4] M) (fun v h => zrun (zevl d) 54 33 [zR 132, zR 1, zI v2, zI v3, zI v4, z5] (v.toList ++ []) h)) := by
  refine Eq.trans (s_iload f_54_20 rfl) ?_
  refine Eq.trans (s_iloadn f_54_22 rfl) ?_
  refine Eq.trans (s_icmp (P := v3 < v4) 99 f_54_23 (by decide) rfl) (ite_cg (fun h1 => ?_) (fun h1 => ?_))
  · exact s_vret f_54_99 t_54
  · refine Eq.trans (s_aloadn f_54_26 rfl) ?_
    refine Eq.trans (s_iloadn f_54_27 rfl) ?_
    refine Eq.trans (s_iload f_54_28 rfl) ?_
    exact s_call [zR 1, zI v2, zI v4] [] f_54_30 rfl c_54_77 rfl rfl (Nat.le_of_ble_eq_true rfl) rfl
theorem q_54_33 {d : Nat} (v2 v3 v4 s0 : Int) (z5 : ZV) (M : ZM) : Q d 54 33 [zR 132, zR 1, zI v2, zI v3, zI v4, z5] [zI s0] M = if s0 = (-1) then (Q d 54 20 [zR 132, zR 1, zI v2, zI v3, zI (zw (v4 + 1)), zI s0] [] M) else (if 0 ≤ s0 ∧ s0 < 384 then if (M 133 s0) ≠ (-1) then (Q d 54 20 [zR 132, zR 1, zI v2, zI v3, zI (zw (v4 + 1)), zI s0] [] M) else (if 0 ≤ s0 ∧ s0 < 384 then if 0 ≤ v2 ∧ v2 < 20 then if ((zwr M 134 s0 v2) 9 v2) ≠ (-1) then (if 0 ≤ v2 ∧ v2 < 20 then if 0 ≤ s0 ∧ s0 < 384 then Q d 54 20 [zR 132, zR 1, zI v2, zI v3, zI (zw (v4 + 1)), zI s0] [] (zwr (zwr M 134 s0 v2) 135 s0 ((zwr M 134 s0 v2) 9 v2)) else none else none) else (if 0 ≤ s0 ∧ s0 < 384 then if 0 ≤ s0 ∧ s0 < 384 then Q d 54 20 [zR 132, zR 1, zI v2, zI v3, zI (zw (v4 + 1)), zI s0] [] (zwr (zwr M 134 s0 v2) 135 s0 ((zwr M 134 s0 v2) 135 s0)) else none else none) else none else none) else none) := by
  refine Eq.trans (s_istore f_54_33 rfl) ?_
  refine Eq.trans (s_iload f_54_35 rfl) ?_
  refine Eq.trans (s_iconst f_54_37) ?_
  refine Eq.trans (s_icmp (P := s0 = (-1)) 93 f_54_38 (by decide) rfl) (ite_cg (fun h1 => ?_) (fun h1 => ?_))
  · refine Eq.trans (s_iinc f_54_93 rfl rfl) ?_
    refine Eq.trans (s_goto 20 f_54_96 (by decide)) ?_
    rfl
  · refine Eq.trans (s_aloadn f_54_41 rfl) ?_
    refine Eq.trans (s_getR f_54_42 g_54_9 (by decide) kn_132 rf_132_0) ?_
    refine Eq.trans (s_iload f_54_45 rfl) ?_
    refine Eq.trans (s_iald f_54_47 kn_133 ln_133) (gd_cg fun h2 => ?_)
    refine Eq.trans (s_iconst f_54_48) ?_
    refine Eq.trans (s_icmp (P := (M 133 s0) ≠ (-1)) 93 f_54_49 (by decide) rfl) (ite_cg (fun h3 => ?_) (fun h3 => ?_))
    · refine Eq.trans (s_iinc f_54_93 rfl rfl) ?_
      refine Eq.trans (s_goto 20 f_54_96 (by decide)) ?_
      rfl
    · refine Eq.trans (s_aloadn f_54_52 rfl) ?_
      refine Eq.trans (s_getR f_54_53 g_54_15 (by decide) kn_132 rf_132_1) ?_
      refine Eq.trans (s_iload f_54_56 rfl) ?_
      refine Eq.trans (s_iloadn f_54_58 rfl) ?_
      refine Eq.trans (s_iast f_54_59 kn_134 ln_134) (gd_cg fun h4 => ?_)
      refine Eq.trans (s_aloadn f_54_60 rfl) ?_
      refine Eq.trans (s_getR f_54_61 g_54_18 (by decide) kn_132 rf_132_2) ?_
      refine Eq.trans (s_iload f_54_64 rfl) ?_
      refine Eq.trans (s_aloadn f_54_66 rfl) ?_
      refine Eq.trans (s_getR f_54_67 g_54_81 (by decide) kn_1 rf_1_7) ?_
      refine Eq.trans (s_iloadn f_54_70 rfl) ?_
      refine Eq.trans (s_iald f_54_71 kn_9 ln_9) (gd_cg fun h5 => ?_)
      refine Eq.trans (s_iconst f_54_72) ?_
      refine Eq.trans (s_icmp (P := ((zwr M 134 s0 v2) 9 v2) ≠ (-1)) 86 f_54_73 (by decide) rfl) (ite_cg (fun h6 => ?_) (fun h6 => ?_))
      · refine Eq.trans (s_aloadn f_54_86 rfl) ?_
        refine Eq.trans (s_getR f_54_87 g_54_81 (by decide) kn_1 rf_1_7) ?_
        refine Eq.trans (s_iloadn f_54_90 rfl) ?_
        refine Eq.trans (s_iald f_54_91 kn_9 ln_9) (gd_cg fun h7 => ?_)
        refine Eq.trans (s_iast f_54_92 kn_135 ln_135) (gd_cg fun h8 => ?_)
        refine Eq.trans (s_iinc f_54_93 rfl rfl) ?_
        refine Eq.trans (s_goto 20 f_54_96 (by decide)) ?_
        rfl
      · refine Eq.trans (s_aloadn f_54_76 rfl) ?_
        refine Eq.trans (s_getR f_54_77 g_54_18 (by decide) kn_132 rf_132_2) ?_
        refine Eq.trans (s_iload f_54_80 rfl) ?_
        refine Eq.trans (s_iald f_54_82 kn_135 ln_135) (gd_cg fun h9 => ?_)
        refine Eq.trans (s_goto 92 f_54_83 (by decide)) ?_
        refine Eq.trans (s_iast f_54_92 kn_135 ln_135) (gd_cg fun h10 => ?_)
        refine Eq.trans (s_iinc f_54_93 rfl rfl) ?_
        refine Eq.trans (s_goto 20 f_54_96 (by decide)) ?_
        rfl
theorem en_54 {d : Nat} (v2 : Int) (M : ZM) : E (d + 1) 54 [zR 132, zR 1, zI v2] M = Q d 54 0 [zR 132, zR 1, zI v2, zU, zU, zU] [] M := e_in (Nat.le_of_ble_eq_true rfl)
-- DungeonBuilder$FloorPlan.wayCell(LDungeonBuilder$Dungeon;II)I
theorem q_55_0 {d : Nat} (v1 v2 : Int) (M : ZM) : Q d 55 0 [zR 1, zI v1, zI v2, zU, zU, zU, zU, zU, zU] [] M = if 0 ≤ v1 ∧ v1 < 20 then Cb (E d 32 [zR 1, zI (M 7 v1)] M) (fun v h => zrun (zevl d) 55 10 [zR 1, zI v1, zI v2, zU, zU, zU, zU, zU, zU] (v.toList ++ []) h) else none := by
  refine Eq.trans (s_aloadn f_55_0 rfl) ?_
  refine Eq.trans (s_aloadn f_55_1 rfl) ?_
  refine Eq.trans (s_getR f_55_2 g_55_68 (by decide) kn_1 rf_1_5) ?_
  refine Eq.trans (s_iloadn f_55_5 rfl) ?_
  refine Eq.trans (s_iald f_55_6 kn_7 ln_7) (gd_cg fun h1 => ?_)
  exact s_call [zR 1, zI (M 7 v1)] [] f_55_7 rfl c_55_84 rfl rfl (Nat.le_of_ble_eq_true rfl) (by show (zkn SH 1 == zown 32) = true; rw [show zkn SH 1 = 1 from kn_1]; rfl)
theorem q_55_10 {d : Nat} (v1 v2 s0 : Int) (M : ZM) : Q d 55 10 [zR 1, zI v1, zI v2, zU, zU, zU, zU, zU, zU] [zI s0] M = if 0 ≤ v1 ∧ v1 < 20 then Cb (E d 33 [zR 1, zI (M 7 v1)] M) (fun v h => zrun (zevl d) 55 21 [zR 1, zI v1, zI v2, zI s0, zU, zU, zU, zU, zU] (v.toList ++ []) h) else none := by
  refine Eq.trans (s_istoren f_55_10 rfl) ?_
  refine Eq.trans (s_aloadn f_55_11 rfl) ?_
  refine Eq.trans (s_aloadn f_55_12 rfl) ?_
  refine Eq.trans (s_getR f_55_13 g_55_68 (by decide) kn_1 rf_1_5) ?_
  refine Eq.trans (s_iloadn f_55_16 rfl) ?_
  refine Eq.trans (s_iald f_55_17 kn_7 ln_7) (gd_cg fun h1 => ?_)
  exact s_call [zR 1, zI (M 7 v1)] [] f_55_18 rfl c_55_88 rfl rfl (Nat.le_of_ble_eq_true rfl) (by show (zkn SH 1 == zown 33) = true; rw [show zkn SH 1 = 1 from kn_1]; rfl)
theorem q_55_21 {d : Nat} (v1 v2 v3 s0 : Int) (M : ZM) : Q d 55 21 [zR 1, zI v1, zI v2, zI v3, zU, zU, zU, zU, zU] [zI s0] M = if 0 ≤ v1 ∧ v1 < 20 then Cb (E d 32 [zR 1, zI (M 8 v1)] M) (fun v h => zrun (zevl d) 55 33 [zR 1, zI v1, zI v2, zI v3, zI s0, zU, zU, zU, zU] (v.toList ++ []) h) else none := by
  refine Eq.trans (s_istore f_55_21 rfl) ?_
  refine Eq.trans (s_aloadn f_55_23 rfl) ?_
  refine Eq.trans (s_aloadn f_55_24 rfl) ?_
  refine Eq.trans (s_getR f_55_25 g_55_71 (by decide) kn_1 rf_1_6) ?_
  refine Eq.trans (s_iloadn f_55_28 rfl) ?_
  refine Eq.trans (s_iald f_55_29 kn_8 ln_8) (gd_cg fun h1 => ?_)
  exact s_call [zR 1, zI (M 8 v1)] [] f_55_30 rfl c_55_84 rfl rfl (Nat.le_of_ble_eq_true rfl) (by show (zkn SH 1 == zown 32) = true; rw [show zkn SH 1 = 1 from kn_1]; rfl)
theorem q_55_33 {d : Nat} (v1 v2 v3 v4 s0 : Int) (M : ZM) : Q d 55 33 [zR 1, zI v1, zI v2, zI v3, zI v4, zU, zU, zU, zU] [zI s0] M = if 0 ≤ v1 ∧ v1 < 20 then Cb (E d 33 [zR 1, zI (M 8 v1)] M) (fun v h => zrun (zevl d) 55 47 [zR 1, zI v1, zI v2, zI v3, zI v4, zI (zw (s0 - v3)), zU, zU, zU] (v.toList ++ []) h) else none := by
  refine Eq.trans (s_iloadn f_55_33 rfl) ?_
  refine Eq.trans (s_isub f_55_34) ?_
  refine Eq.trans (s_istore f_55_35 rfl) ?_
  refine Eq.trans (s_aloadn f_55_37 rfl) ?_
  refine Eq.trans (s_aloadn f_55_38 rfl) ?_
  refine Eq.trans (s_getR f_55_39 g_55_71 (by decide) kn_1 rf_1_6) ?_
  refine Eq.trans (s_iloadn f_55_42 rfl) ?_
  refine Eq.trans (s_iald f_55_43 kn_8 ln_8) (gd_cg fun h1 => ?_)
  exact s_call [zR 1, zI (M 8 v1)] [] f_55_44 rfl c_55_88 rfl rfl (Nat.le_of_ble_eq_true rfl) (by show (zkn SH 1 == zown 33) = true; rw [show zkn SH 1 = 1 from kn_1]; rfl)
theorem q_55_47 {d : Nat} (v1 v2 v3 v4 v5 s0 : Int) (M : ZM) : Q d 55 47 [zR 1, zI v1, zI v2, zI v3, zI v4, zI v5, zU, zU, zU] [zI s0] M = if ((v1).tmod 2) ≠ 0 then (Cb (E d 250 [zI v5] M) (fun v h => zrun (zevl d) 55 101 [zR 1, zI v1, zI v2, zI v3, zI v4, zI v5, zI (zw (s0 - v4)), zI 0, zI (if 0 < (zw (v2 - (if 0 ≤ (zw (s0 - v4)) then (zw (s0 - v4)) else zw (0 - (zw (s0 - v4)))))) then (zw (v2 - (if 0 ≤ (zw (s0 - v4)) then (zw (s0 - v4)) else zw (0 - (zw (s0 - v4)))))) else 0)] (v.toList ++ [zI v3]) h)) else (Cb (E d 250 [zI v5] M) (fun v h => zrun (zevl d) 55 101 [zR 1, zI v1, zI v2, zI v3, zI v4, zI v5, zI (zw (s0 - v4)), zI 1, zI (if (if 0 ≤ v5 then v5 else zw (0 - v5)) < v2 then (if 0 ≤ v5 then v5 else zw (0 - v5)) else v2)] (v.toList ++ [zI v3]) h)) := by
  refine Eq.trans (s_iload f_55_47 rfl) ?_
  refine Eq.trans (s_isub f_55_49) ?_
  refine Eq.trans (s_istore f_55_50 rfl) ?_
  refine Eq.trans (s_iloadn f_55_52 rfl) ?_
  refine Eq.trans (s_iconst f_55_53) ?_
  refine Eq.trans (s_irem f_55_54) (Eq.trans (if_pos (by decide)) ?_)
  refine Eq.trans (s_if (P := ((v1).tmod 2) ≠ 0) 62 f_55_55 (by decide) rfl) (ite_cg (fun h1 => ?_) (fun h1 => ?_))
  · refine Eq.trans (s_iconst f_55_62) ?_
    refine Eq.trans (s_istore f_55_63 rfl) ?_
    refine Eq.trans (s_iload f_55_65 rfl) ?_
    refine Eq.trans (s_if (P := 0 = 0) 82 f_55_67 (by decide) rfl) (Eq.trans (if_pos (by decide)) ?_)
    refine Eq.trans (s_iconst f_55_82) ?_
    refine Eq.trans (s_iloadn f_55_83 rfl) ?_
    refine Eq.trans (s_iload f_55_84 rfl) ?_
    refine Eq.trans (s_abs f_55_86 m_55_91 (Nat.le_of_ble_eq_true rfl)) ?_
    refine Eq.trans (s_isub f_55_89) ?_
    refine Eq.trans (s_max f_55_90 m_55_99 (Nat.le_of_ble_eq_true rfl)) ?_
    refine Eq.trans (s_istore f_55_93 rfl) ?_
    refine Eq.trans (s_iloadn f_55_95 rfl) ?_
    refine Eq.trans (s_iload f_55_96 rfl) ?_
    exact s_call [zI v5] [zI v3] f_55_98 rfl c_55_102 rfl rfl (Nat.le_of_ble_eq_true rfl) rfl
  · refine Eq.trans (s_iconst f_55_58) ?_
    refine Eq.trans (s_goto 63 f_55_59 (by decide)) ?_
    refine Eq.trans (s_istore f_55_63 rfl) ?_
    refine Eq.trans (s_iload f_55_65 rfl) ?_
    refine Eq.trans (s_if (P := 1 = 0) 82 f_55_67 (by decide) rfl) (Eq.trans (if_neg (by decide)) ?_)
    refine Eq.trans (s_iloadn f_55_70 rfl) ?_
    refine Eq.trans (s_iload f_55_71 rfl) ?_
    refine Eq.trans (s_abs f_55_73 m_55_91 (Nat.le_of_ble_eq_true rfl)) ?_
    refine Eq.trans (s_min f_55_76 m_55_96 (Nat.le_of_ble_eq_true rfl)) ?_
    refine Eq.trans (s_goto 93 f_55_79 (by decide)) ?_
    refine Eq.trans (s_istore f_55_93 rfl) ?_
    refine Eq.trans (s_iloadn f_55_95 rfl) ?_
    refine Eq.trans (s_iload f_55_96 rfl) ?_
    exact s_call [zI v5] [zI v3] f_55_98 rfl c_55_102 rfl rfl (Nat.le_of_ble_eq_true rfl) rfl
theorem q_55_101 {d : Nat} (v1 v2 v3 v4 v5 v6 v7 v8 s0 s1 : Int) (M : ZM) : Q d 55 101 [zR 1, zI v1, zI v2, zI v3, zI v4, zI v5, zI v6, zI v7, zI v8] [zI s1, zI s0] M = Cb (E d 250 [zI v6] M) (fun v h => zrun (zevl d) 55 112 [zR 1, zI v1, zI v2, zI v3, zI v4, zI v5, zI v6, zI v7, zI v8] (v.toList ++ [zI v4, zI (zw (s0 + (zw (s1 * v8))))]) h) := by
  refine Eq.trans (s_iload f_55_101 rfl) ?_
  refine Eq.trans (s_imul f_55_103) ?_
  refine Eq.trans (s_iadd f_55_104) ?_
  refine Eq.trans (s_iload f_55_105 rfl) ?_
  refine Eq.trans (s_iload f_55_107 rfl) ?_
  exact s_call [zI v6] [zI v4, zI (zw (s0 + (zw (s1 * v8))))] f_55_109 rfl c_55_102 rfl rfl (Nat.le_of_ble_eq_true rfl) rfl
theorem q_55_112 {d : Nat} (v1 v2 v3 v4 v5 v6 v7 v8 s0 s1 s2 : Int) (M : ZM) : Q d 55 112 [zR 1, zI v1, zI v2, zI v3, zI v4, zI v5, zI v6, zI v7, zI v8] [zI s2, zI s1, zI s0] M = Cb (E d 150 [zI s0, zI (zw (s1 + (zw (s2 * (zw (v2 - v8))))))] M) (fun v h => zrun (zevl d) 55 121 [zR 1, zI v1, zI v2, zI v3, zI v4, zI v5, zI v6, zI v7, zI v8] (v.toList ++ []) h) := by
  refine Eq.trans (s_iloadn f_55_112 rfl) ?_
  refine Eq.trans (s_iload f_55_113 rfl) ?_
  refine Eq.trans (s_isub f_55_115) ?_
  refine Eq.trans (s_imul f_55_116) ?_
  refine Eq.trans (s_iadd f_55_117) ?_
  exact s_call [zI s0, zI (zw (s1 + (zw (s2 * (zw (v2 - v8))))))] [] f_55_118 rfl c_55_64 rfl rfl (Nat.le_of_ble_eq_true rfl) rfl
theorem q_55_121 {d : Nat} (v1 v2 v3 v4 v5 v6 v7 v8 s0 : Int) (M : ZM) : Q d 55 121 [zR 1, zI v1, zI v2, zI v3, zI v4, zI v5, zI v6, zI v7, zI v8] [zI s0] M = Rt (some (zI s0)) M := by
  exact s_iret f_55_121 t_55
theorem en_55 {d : Nat} (v1 v2 : Int) (M : ZM) : E (d + 1) 55 [zR 1, zI v1, zI v2] M = Q d 55 0 [zR 1, zI v1, zI v2, zU, zU, zU, zU, zU, zU] [] M := e_in (Nat.le_of_ble_eq_true rfl)
-- DungeonBuilder$FloorPlan.cellsOf(LDungeonBuilder$Dungeon;I)I
theorem q_56_0 {d : Nat} (v2 : Int) (M : ZM) : Q d 56 0 [zR 132, zR 1, zI v2, zU, zU, zU, zU] [] M = if 0 ≤ v2 ∧ v2 < 20 then if 0 ≤ v2 ∧ v2 < 20 then Cb (E d 34 [zR 1, zI (M 7 v2), zI (M 8 v2)] M) (fun v h => zrun (zevl d) 56 18 [zR 132, zR 1, zI v2, zI 0, zU, zU, zU] (v.toList ++ []) h) else none else none := by
  refine Eq.trans (s_iconst f_56_0) ?_
  refine Eq.trans (s_istoren f_56_1 rfl) ?_
  refine Eq.trans (s_aloadn f_56_2 rfl) ?_
  refine Eq.trans (s_aloadn f_56_3 rfl) ?_
  refine Eq.trans (s_getR f_56_4 g_56_68 (by decide) kn_1 rf_1_5) ?_
  refine Eq.trans (s_iloadn f_56_7 rfl) ?_
  refine Eq.trans (s_iald f_56_8 kn_7 ln_7) (gd_cg fun h1 => ?_)
  refine Eq.trans (s_aloadn f_56_9 rfl) ?_
  refine Eq.trans (s_getR f_56_10 g_56_71 (by decide) kn_1 rf_1_6) ?_
  refine Eq.trans (s_iloadn f_56_13 rfl) ?_
  refine Eq.trans (s_iald f_56_14 kn_8 ln_8) (gd_cg fun h2 => ?_)
  exact s_call [zR 1, zI (M 7 v2), zI (M 8 v2)] [] f_56_15 rfl c_56_74 rfl rfl (Nat.le_of_ble_eq_true rfl) (by show (zkn SH 1 == zown 34) = true; rw [show zkn SH 1 = 1 from kn_1]; rfl)
theorem q_56_18 {d : Nat} (v2 v3 s0 : Int) (M : ZM) : Q d 56 18 [zR 132, zR 1, zI v2, zI v3, zU, zU, zU] [zI s0] M = Q d 56 23 [zR 132, zR 1, zI v2, zI v3, zI s0, zI 0, zU] [] M := by
  refine Eq.trans (s_istore f_56_18 rfl) ?_
  refine Eq.trans (s_iconst f_56_20) ?_
  refine Eq.trans (s_istore f_56_21 rfl) ?_
  rfl
theorem q_56_23 {d : Nat} (v2 v3 v4 v5 : Int) (z6 : ZV) (M : ZM) : Q d 56 23 [zR 132, zR 1, zI v2, zI v3, zI v4, zI v5, z6] [] M = if v4 < v5 then (Rt (some (zI v3)) M) else (Cb (E d 55 [zR 1, zI v2, zI v5] M) (fun v h => zrun (zevl d) 56 37 [zR 132, zR 1, zI v2, zI v3, zI v4, zI v5, z6] (v.toList ++ []) h)) := by
  refine Eq.trans (s_iload f_56_23 rfl) ?_
  refine Eq.trans (s_iload f_56_25 rfl) ?_
  refine Eq.trans (s_icmp (P := v4 < v5) 65 f_56_27 (by decide) rfl) (ite_cg (fun h1 => ?_) (fun h1 => ?_))
  · refine Eq.trans (s_iloadn f_56_65 rfl) ?_
    exact s_iret f_56_66 t_56
  · refine Eq.trans (s_aloadn f_56_30 rfl) ?_
    refine Eq.trans (s_iloadn f_56_31 rfl) ?_
    refine Eq.trans (s_iload f_56_32 rfl) ?_
    exact s_call [zR 1, zI v2, zI v5] [] f_56_34 rfl c_56_77 rfl rfl (Nat.le_of_ble_eq_true rfl) rfl
theorem q_56_37 {d : Nat} (v2 v3 v4 v5 s0 : Int) (z6 : ZV) (M : ZM) : Q d 56 37 [zR 132, zR 1, zI v2, zI v3, zI v4, zI v5, z6] [zI s0] M = if s0 = (-1) then (Q d 56 23 [zR 132, zR 1, zI v2, zI v3, zI v4, zI (zw (v5 + 1)), zI s0] [] M) else (if 0 ≤ s0 ∧ s0 < 384 then if (M 133 s0) ≠ (-1) then (Q d 56 23 [zR 132, zR 1, zI v2, zI v3, zI v4, zI (zw (v5 + 1)), zI s0] [] M) else (Q d 56 23 [zR 132, zR 1, zI v2, zI (zw (v3 + 1)), zI v4, zI (zw (v5 + 1)), zI s0] [] M) else none) := by
  refine Eq.trans (s_istore f_56_37 rfl) ?_
  refine Eq.trans (s_iload f_56_39 rfl) ?_
  refine Eq.trans (s_iconst f_56_41) ?_
  refine Eq.trans (s_icmp (P := s0 = (-1)) 59 f_56_42 (by decide) rfl) (ite_cg (fun h1 => ?_) (fun h1 => ?_))
  · refine Eq.trans (s_iinc f_56_59 rfl rfl) ?_
    refine Eq.trans (s_goto 23 f_56_62 (by decide)) ?_
    rfl
  · refine Eq.trans (s_aloadn f_56_45 rfl) ?_
    refine Eq.trans (s_getR f_56_46 g_56_9 (by decide) kn_132 rf_132_0) ?_
    refine Eq.trans (s_iload f_56_49 rfl) ?_
    refine Eq.trans (s_iald f_56_51 kn_133 ln_133) (gd_cg fun h2 => ?_)
    refine Eq.trans (s_iconst f_56_52) ?_
    refine Eq.trans (s_icmp (P := (M 133 s0) ≠ (-1)) 59 f_56_53 (by decide) rfl) (ite_cg (fun h3 => ?_) (fun h3 => ?_))
    · refine Eq.trans (s_iinc f_56_59 rfl rfl) ?_
      refine Eq.trans (s_goto 23 f_56_62 (by decide)) ?_
      rfl
    · refine Eq.trans (s_iinc f_56_56 rfl rfl) ?_
      refine Eq.trans (s_iinc f_56_59 rfl rfl) ?_
      refine Eq.trans (s_goto 23 f_56_62 (by decide)) ?_
      rfl
theorem en_56 {d : Nat} (v2 : Int) (M : ZM) : E (d + 1) 56 [zR 132, zR 1, zI v2] M = Q d 56 0 [zR 132, zR 1, zI v2, zU, zU, zU, zU] [] M := e_in (Nat.le_of_ble_eq_true rfl)
-- DungeonBuilder$FloorPlan.corridorCells()I
theorem q_57_0 {d : Nat} (M : ZM) : Q d 57 0 [zR 132, zU, zU] [] M = Q d 57 4 [zR 132, zI 0, zI 0] [] M := by
  refine Eq.trans (s_iconst f_57_0) ?_
  refine Eq.trans (s_istoren f_57_1 rfl) ?_
  refine Eq.trans (s_iconst f_57_2) ?_
  refine Eq.trans (s_istoren f_57_3 rfl) ?_
  rfl
theorem q_57_4 {d : Nat} (v1 v2 : Int) (M : ZM) : Q d 57 4 [zR 132, zI v1, zI v2] [] M = if 384 ≤ v2 then (Rt (some (zI v1)) M) else (if 0 ≤ v2 ∧ v2 < 384 then if (M 134 v2) = (-1) then (Q d 57 4 [zR 132, zI v1, zI (zw (v2 + 1))] [] M) else (Q d 57 4 [zR 132, zI (zw (v1 + 1)), zI (zw (v2 + 1))] [] M) else none) := by
  refine Eq.trans (s_iloadn f_57_4 rfl) ?_
  refine Eq.trans (s_sipush f_57_5) ?_
  refine Eq.trans (s_icmp (P := 384 ≤ v2) 30 f_57_8 (by decide) rfl) (ite_cg (fun h1 => ?_) (fun h1 => ?_))
  · refine Eq.trans (s_iloadn f_57_30 rfl) ?_
    exact s_iret f_57_31 t_57
  · refine Eq.trans (s_aloadn f_57_11 rfl) ?_
    refine Eq.trans (s_getR f_57_12 g_57_15 (by decide) kn_132 rf_132_1) ?_
    refine Eq.trans (s_iloadn f_57_15 rfl) ?_
    refine Eq.trans (s_iald f_57_16 kn_134 ln_134) (gd_cg fun h2 => ?_)
    refine Eq.trans (s_iconst f_57_17) ?_
    refine Eq.trans (s_icmp (P := (M 134 v2) = (-1)) 24 f_57_18 (by decide) rfl) (ite_cg (fun h3 => ?_) (fun h3 => ?_))
    · refine Eq.trans (s_iinc f_57_24 rfl rfl) ?_
      refine Eq.trans (s_goto 4 f_57_27 (by decide)) ?_
      rfl
    · refine Eq.trans (s_iinc f_57_21 rfl rfl) ?_
      refine Eq.trans (s_iinc f_57_24 rfl rfl) ?_
      refine Eq.trans (s_goto 4 f_57_27 (by decide)) ?_
      rfl
theorem en_57 {d : Nat} (M : ZM) : E (d + 1) 57 [zR 132] M = Q d 57 0 [zR 132, zU, zU] [] M := e_in (Nat.le_of_ble_eq_true rfl)
-- DungeonBuilder$FloorPlan.isFloor(I)Z
theorem q_58_0 {d : Nat} (v1 : Int) (M : ZM) : Q d 58 0 [zR 132, zI v1] [] M = if 0 ≤ v1 ∧ v1 < 384 then if (M 133 v1) ≠ (-1) then (Rt (some (zI 1)) M) else (if 0 ≤ v1 ∧ v1 < 384 then if (M 134 v1) = (-1) then (Rt (some (zI 0)) M) else (Rt (some (zI 1)) M) else none) else none := by
  refine Eq.trans (s_aloadn f_58_0 rfl) ?_
  refine Eq.trans (s_getR f_58_1 g_58_9 (by decide) kn_132 rf_132_0) ?_
  refine Eq.trans (s_iloadn f_58_4 rfl) ?_
  refine Eq.trans (s_iald f_58_5 kn_133 ln_133) (gd_cg fun h1 => ?_)
  refine Eq.trans (s_iconst f_58_6) ?_
  refine Eq.trans (s_icmp (P := (M 133 v1) ≠ (-1)) 20 f_58_7 (by decide) rfl) (ite_cg (fun h2 => ?_) (fun h2 => ?_))
  · refine Eq.trans (s_iconst f_58_20) ?_
    refine Eq.trans (s_goto 25 f_58_21 (by decide)) ?_
    exact s_zret f_58_25 t_58 (by decide)
  · refine Eq.trans (s_aloadn f_58_10 rfl) ?_
    refine Eq.trans (s_getR f_58_11 g_58_15 (by decide) kn_132 rf_132_1) ?_
    refine Eq.trans (s_iloadn f_58_14 rfl) ?_
    refine Eq.trans (s_iald f_58_15 kn_134 ln_134) (gd_cg fun h3 => ?_)
    refine Eq.trans (s_iconst f_58_16) ?_
    refine Eq.trans (s_icmp (P := (M 134 v1) = (-1)) 24 f_58_17 (by decide) rfl) (ite_cg (fun h4 => ?_) (fun h4 => ?_))
    · refine Eq.trans (s_iconst f_58_24) ?_
      exact s_zret f_58_25 t_58 (by decide)
    · refine Eq.trans (s_iconst f_58_20) ?_
      refine Eq.trans (s_goto 25 f_58_21 (by decide)) ?_
      exact s_zret f_58_25 t_58 (by decide)
theorem en_58 {d : Nat} (v1 : Int) (M : ZM) : E (d + 1) 58 [zR 132, zI v1] M = Q d 58 0 [zR 132, zI v1] [] M := e_in (Nat.le_of_ble_eq_true rfl)
-- DungeonBuilder$FloorPlan.contentOf(I)I
theorem q_59_0 {d : Nat} (v1 : Int) (M : ZM) : Q d 59 0 [zR 132, zI v1] [] M = if 0 ≤ v1 ∧ v1 < 384 then if (M 133 v1) = (-1) then (if 0 ≤ v1 ∧ v1 < 384 then if (M 134 v1) ≠ (-1) then (if 0 ≤ v1 ∧ v1 < 384 then Rt (some (zI (zw (20 + (M 134 v1))))) M else none) else (Rt (some (zI (-104))) M) else none) else (if 0 ≤ v1 ∧ v1 < 384 then Rt (some (zI (M 133 v1))) M else none) else none := by
  refine Eq.trans (s_aloadn f_59_0 rfl) ?_
  refine Eq.trans (s_getR f_59_1 g_59_9 (by decide) kn_132 rf_132_0) ?_
  refine Eq.trans (s_iloadn f_59_4 rfl) ?_
  refine Eq.trans (s_iald f_59_5 kn_133 ln_133) (gd_cg fun h1 => ?_)
  refine Eq.trans (s_iconst f_59_6) ?_
  refine Eq.trans (s_icmp (P := (M 133 v1) = (-1)) 17 f_59_7 (by decide) rfl) (ite_cg (fun h2 => ?_) (fun h2 => ?_))
  · refine Eq.trans (s_aloadn f_59_17 rfl) ?_
    refine Eq.trans (s_getR f_59_18 g_59_15 (by decide) kn_132 rf_132_1) ?_
    refine Eq.trans (s_iloadn f_59_21 rfl) ?_
    refine Eq.trans (s_iald f_59_22 kn_134 ln_134) (gd_cg fun h3 => ?_)
    refine Eq.trans (s_iconst f_59_23) ?_
    refine Eq.trans (s_icmp (P := (M 134 v1) ≠ (-1)) 32 f_59_24 (by decide) rfl) (ite_cg (fun h4 => ?_) (fun h4 => ?_))
    · refine Eq.trans (s_bipush f_59_32) ?_
      refine Eq.trans (s_aloadn f_59_34 rfl) ?_
      refine Eq.trans (s_getR f_59_35 g_59_15 (by decide) kn_132 rf_132_1) ?_
      refine Eq.trans (s_iloadn f_59_38 rfl) ?_
      refine Eq.trans (s_iald f_59_39 kn_134 ln_134) (gd_cg fun h5 => ?_)
      refine Eq.trans (s_iadd f_59_40) ?_
      exact s_iret f_59_41 t_59
    · refine Eq.trans (s_bipush f_59_27) ?_
      refine Eq.trans (s_goto 41 f_59_29 (by decide)) ?_
      exact s_iret f_59_41 t_59
  · refine Eq.trans (s_aloadn f_59_10 rfl) ?_
    refine Eq.trans (s_getR f_59_11 g_59_9 (by decide) kn_132 rf_132_0) ?_
    refine Eq.trans (s_iloadn f_59_14 rfl) ?_
    refine Eq.trans (s_iald f_59_15 kn_133 ln_133) (gd_cg fun h6 => ?_)
    exact s_iret f_59_16 t_59
theorem en_59 {d : Nat} (v1 : Int) (M : ZM) : E (d + 1) 59 [zR 132, zI v1] M = Q d 59 0 [zR 132, zI v1] [] M := e_in (Nat.le_of_ble_eq_true rfl)
-- DungeonBuilder$FloorPlan.signOf(LDungeonBuilder$Dungeon;I)I
theorem q_60_0 {d : Nat} (v2 : Int) (M : ZM) : Q d 60 0 [zR 132, zR 1, zI v2] [] M = if 0 ≤ v2 ∧ v2 < 384 then if (M 133 v2) = (-1) then (if 0 ≤ v2 ∧ v2 < 384 then if (M 134 v2) ≠ (-1) then (if 0 ≤ v2 ∧ v2 < 384 then if (M 135 v2) ≠ (-1) then (if 0 ≤ v2 ∧ v2 < 384 then Rt (some (zI (zw (97 + (M 135 v2))))) M else none) else (Rt (some (zI 43)) M) else none) else (Rt (some (zI 35)) M) else none) else (if 0 ≤ v2 ∧ v2 < 384 then Cb (E d 61 [zR 1, zI (M 133 v2), zI v2] M) (fun v h => zrun (zevl d) 60 21 [zR 132, zR 1, zI v2] (v.toList ++ []) h) else none) else none := by
  refine Eq.trans (s_aloadn f_60_0 rfl) ?_
  refine Eq.trans (s_getR f_60_1 g_60_9 (by decide) kn_132 rf_132_0) ?_
  refine Eq.trans (s_iloadn f_60_4 rfl) ?_
  refine Eq.trans (s_iald f_60_5 kn_133 ln_133) (gd_cg fun h1 => ?_)
  refine Eq.trans (s_iconst f_60_6) ?_
  refine Eq.trans (s_icmp (P := (M 133 v2) = (-1)) 22 f_60_7 (by decide) rfl) (ite_cg (fun h2 => ?_) (fun h2 => ?_))
  · refine Eq.trans (s_aloadn f_60_22 rfl) ?_
    refine Eq.trans (s_getR f_60_23 g_60_15 (by decide) kn_132 rf_132_1) ?_
    refine Eq.trans (s_iloadn f_60_26 rfl) ?_
    refine Eq.trans (s_iald f_60_27 kn_134 ln_134) (gd_cg fun h3 => ?_)
    refine Eq.trans (s_iconst f_60_28) ?_
    refine Eq.trans (s_icmp (P := (M 134 v2) ≠ (-1)) 35 f_60_29 (by decide) rfl) (ite_cg (fun h4 => ?_) (fun h4 => ?_))
    · refine Eq.trans (s_aloadn f_60_35 rfl) ?_
      refine Eq.trans (s_getR f_60_36 g_60_18 (by decide) kn_132 rf_132_2) ?_
      refine Eq.trans (s_iloadn f_60_39 rfl) ?_
      refine Eq.trans (s_iald f_60_40 kn_135 ln_135) (gd_cg fun h5 => ?_)
      refine Eq.trans (s_iconst f_60_41) ?_
      refine Eq.trans (s_icmp (P := (M 135 v2) ≠ (-1)) 50 f_60_42 (by decide) rfl) (ite_cg (fun h6 => ?_) (fun h6 => ?_))
      · refine Eq.trans (s_bipush f_60_50) ?_
        refine Eq.trans (s_aloadn f_60_52 rfl) ?_
        refine Eq.trans (s_getR f_60_53 g_60_18 (by decide) kn_132 rf_132_2) ?_
        refine Eq.trans (s_iloadn f_60_56 rfl) ?_
        refine Eq.trans (s_iald f_60_57 kn_135 ln_135) (gd_cg fun h7 => ?_)
        refine Eq.trans (s_iadd f_60_58) ?_
        exact s_iret f_60_59 t_60
      · refine Eq.trans (s_bipush f_60_45) ?_
        refine Eq.trans (s_goto 59 f_60_47 (by decide)) ?_
        exact s_iret f_60_59 t_60
    · refine Eq.trans (s_bipush f_60_32) ?_
      exact s_iret f_60_34 t_60
  · refine Eq.trans (s_aloadn f_60_10 rfl) ?_
    refine Eq.trans (s_aloadn f_60_11 rfl) ?_
    refine Eq.trans (s_getR f_60_12 g_60_9 (by decide) kn_132 rf_132_0) ?_
    refine Eq.trans (s_iloadn f_60_15 rfl) ?_
    refine Eq.trans (s_iald f_60_16 kn_133 ln_133) (gd_cg fun h8 => ?_)
    refine Eq.trans (s_iloadn f_60_17 rfl) ?_
    exact s_call [zR 1, zI (M 133 v2), zI v2] [] f_60_18 rfl c_60_107 rfl rfl (Nat.le_of_ble_eq_true rfl) rfl
theorem q_60_21 {d : Nat} (v2 s0 : Int) (M : ZM) : Q d 60 21 [zR 132, zR 1, zI v2] [zI s0] M = Rt (some (zI s0)) M := by
  exact s_iret f_60_21 t_60
theorem en_60 {d : Nat} (v2 : Int) (M : ZM) : E (d + 1) 60 [zR 132, zR 1, zI v2] M = Q d 60 0 [zR 132, zR 1, zI v2] [] M := e_in (Nat.le_of_ble_eq_true rfl)
-- DungeonBuilder$FloorPlan.signInRoom(LDungeonBuilder$Dungeon;II)I
theorem q_61_0 {d : Nat} (v1 v2 : Int) (M : ZM) : Q d 61 0 [zR 1, zI v1, zI v2] [] M = Cb (E d 32 [zR 1, zI v1] M) (fun v h => zrun (zevl d) 61 6 [zR 1, zI v1, zI v2] (v.toList ++ [zI v2]) h) := by
  refine Eq.trans (s_iloadn f_61_0 rfl) ?_
  refine Eq.trans (s_aloadn f_61_1 rfl) ?_
  refine Eq.trans (s_iloadn f_61_2 rfl) ?_
  exact s_call [zR 1, zI v1] [zI v2] f_61_3 rfl c_61_84 rfl rfl (Nat.le_of_ble_eq_true rfl) (by show (zkn SH 1 == zown 32) = true; rw [show zkn SH 1 = 1 from kn_1]; rfl)
theorem q_61_6 {d : Nat} (v1 v2 s0 s1 : Int) (M : ZM) : Q d 61 6 [zR 1, zI v1, zI v2] [zI s1, zI s0] M = Cb (E d 33 [zR 1, zI v1] M) (fun v h => zrun (zevl d) 61 11 [zR 1, zI v1, zI v2] (v.toList ++ [zI s1, zI s0]) h) := by
  refine Eq.trans (s_aloadn f_61_6 rfl) ?_
  refine Eq.trans (s_iloadn f_61_7 rfl) ?_
  exact s_call [zR 1, zI v1] [zI s1, zI s0] f_61_8 rfl c_61_88 rfl rfl (Nat.le_of_ble_eq_true rfl) (by show (zkn SH 1 == zown 33) = true; rw [show zkn SH 1 = 1 from kn_1]; rfl)
theorem q_61_11 {d : Nat} (v1 v2 s0 s1 s2 : Int) (M : ZM) : Q d 61 11 [zR 1, zI v1, zI v2] [zI s2, zI s1, zI s0] M = Cb (E d 150 [zI s1, zI s2] M) (fun v h => zrun (zevl d) 61 14 [zR 1, zI v1, zI v2] (v.toList ++ [zI s0]) h) := by
  exact s_call [zI s1, zI s2] [zI s0] f_61_11 rfl c_61_64 rfl rfl (Nat.le_of_ble_eq_true rfl) rfl
theorem q_61_14 {d : Nat} (v1 v2 s0 s1 : Int) (M : ZM) : Q d 61 14 [zR 1, zI v1, zI v2] [zI s1, zI s0] M = if s0 = s1 then (if v1 ≠ (M 1 10) then (if 0 ≤ v1 ∧ v1 < 12 then if (M 6 v1) ≠ (-1) then (if 0 ≤ v1 ∧ v1 < 12 then Rt (some (zI (zw (48 + (M 6 v1))))) M else none) else (Rt (some (zI 111)) M) else none) else (Rt (some (zI 62)) M)) else (Rt (some (zI 46)) M) := by
  refine Eq.trans (s_icmp (P := s0 = s1) 20 f_61_14 (by decide) rfl) (ite_cg (fun h1 => ?_) (fun h1 => ?_))
  · refine Eq.trans (s_iloadn f_61_20 rfl) ?_
    refine Eq.trans (s_aloadn f_61_21 rfl) ?_
    refine Eq.trans (s_getI f_61_22 g_61_110 (by decide) kn_1) ?_
    refine Eq.trans (s_icmp (P := v1 ≠ (M 1 10)) 31 f_61_25 (by decide) rfl) (ite_cg (fun h2 => ?_) (fun h2 => ?_))
    · refine Eq.trans (s_aloadn f_61_31 rfl) ?_
      refine Eq.trans (s_getR f_61_32 g_61_113 (by decide) kn_1 rf_1_4) ?_
      refine Eq.trans (s_iloadn f_61_35 rfl) ?_
      refine Eq.trans (s_iald f_61_36 kn_6 ln_6) (gd_cg fun h3 => ?_)
      refine Eq.trans (s_iconst f_61_37) ?_
      refine Eq.trans (s_icmp (P := (M 6 v1) ≠ (-1)) 46 f_61_38 (by decide) rfl) (ite_cg (fun h4 => ?_) (fun h4 => ?_))
      · refine Eq.trans (s_bipush f_61_46) ?_
        refine Eq.trans (s_aloadn f_61_48 rfl) ?_
        refine Eq.trans (s_getR f_61_49 g_61_113 (by decide) kn_1 rf_1_4) ?_
        refine Eq.trans (s_iloadn f_61_52 rfl) ?_
        refine Eq.trans (s_iald f_61_53 kn_6 ln_6) (gd_cg fun h5 => ?_)
        refine Eq.trans (s_iadd f_61_54) ?_
        exact s_iret f_61_55 t_61
      · refine Eq.trans (s_bipush f_61_41) ?_
        refine Eq.trans (s_goto 55 f_61_43 (by decide)) ?_
        exact s_iret f_61_55 t_61
    · refine Eq.trans (s_bipush f_61_28) ?_
      exact s_iret f_61_30 t_61
  · refine Eq.trans (s_bipush f_61_17) ?_
    exact s_iret f_61_19 t_61
theorem en_61 {d : Nat} (v1 v2 : Int) (M : ZM) : E (d + 1) 61 [zR 1, zI v1, zI v2] M = Q d 61 0 [zR 1, zI v1, zI v2] [] M := e_in (Nat.le_of_ble_eq_true rfl)
-- DungeonBuilder$FloorPlan.stepsBetween(II)I
theorem q_62_0 {d : Nat} (v1 v2 : Int) (M : ZM) : Q d 62 0 [zR 132, zI v1, zI v2, zU, zU, zU, zU] [] M = Cb (E d 254 [zR 136, zI (-1)] M) (fun v h => zrun (zevl d) 62 8 [zR 132, zI v1, zI v2, zU, zU, zU, zU] (v.toList ++ []) h) := by
  refine Eq.trans (s_aloadn f_62_0 rfl) ?_
  refine Eq.trans (s_getR f_62_1 g_62_21 (by decide) kn_132 rf_132_3) ?_
  refine Eq.trans (s_iconst f_62_4) ?_
  exact s_call [zR 136, zI (-1)] [] f_62_5 rfl c_62_31 rfl rfl (Nat.le_of_ble_eq_true rfl) rfl
theorem q_62_8 {d : Nat} (v1 v2 : Int) (M : ZM) : Q d 62 8 [zR 132, zI v1, zI v2, zU, zU, zU, zU] [] M = Cb (E d 63 [zR 132, zI v1, zI 0] (zwr M 132 5 0)) (fun v h => zrun (zevl d) 62 19 [zR 132, zI v1, zI v2, zU, zU, zU, zU] (v.toList ++ []) h) := by
  refine Eq.trans (s_aloadn f_62_8 rfl) ?_
  refine Eq.trans (s_iconst f_62_9) ?_
  refine Eq.trans (s_putI f_62_10 g_62_27 (by decide) kn_132) ?_
  refine Eq.trans (s_aloadn f_62_13 rfl) ?_
  refine Eq.trans (s_iloadn f_62_14 rfl) ?_
  refine Eq.trans (s_iconst f_62_15) ?_
  exact s_call [zR 132, zI v1, zI 0] [] f_62_16 rfl c_62_116 rfl rfl (Nat.le_of_ble_eq_true rfl) (by show (zkn SH 132 == zown 63) = true; rw [show zkn SH 132 = 3 from kn_132]; rfl)
theorem q_62_19 {d : Nat} (v1 v2 : Int) (M : ZM) : Q d 62 19 [zR 132, zI v1, zI v2, zU, zU, zU, zU] [] M = Q d 62 21 [zR 132, zI v1, zI v2, zI 0, zU, zU, zU] [] M := by
  refine Eq.trans (s_iconst f_62_19) ?_
  refine Eq.trans (s_istoren f_62_20 rfl) ?_
  rfl
theorem q_62_21 {d : Nat} (v1 v2 v3 : Int) (z4 z5 z6 : ZV) (M : ZM) : Q d 62 21 [zR 132, zI v1, zI v2, zI v3, z4, z5, z6] [] M = if 384 ≤ v3 then (Q d 62 139 [zR 132, zI v1, zI v2, zI v3, z4, z5, z6] [] M) else (if (M 132 5) ≤ v3 then (Q d 62 139 [zR 132, zI v1, zI v2, zI v3, z4, z5, z6] [] M) else (if 0 ≤ v3 ∧ v3 < 384 then if 0 ≤ v3 ∧ v3 < 384 then if 0 ≤ v3 ∧ v3 < 384 then if 0 ≤ (M 137 v3) ∧ (M 137 v3) < 384 then Cb (E d 150 [zI (zw ((((M 137 v3)).tmod 24) - 1)), zI (zw (((M 137 v3)).tdiv 24))] M) (fun v h => zrun (zevl d) 62 83 [zR 132, zI v1, zI v2, zI v3, zI (((M 137 v3)).tmod 24), zI (zw (((M 137 v3)).tdiv 24)), zI (zw ((M 136 (M 137 v3)) + 1))] (v.toList ++ [zR 132]) h) else none else none else none else none)) := by
  refine Eq.trans (s_iloadn f_62_21 rfl) ?_
  refine Eq.trans (s_sipush f_62_22) ?_
  refine Eq.trans (s_icmp (P := 384 ≤ v3) 139 f_62_25 (by decide) rfl) (ite_cg (fun h1 => ?_) (fun h1 => ?_))
  · rfl
  · refine Eq.trans (s_iloadn f_62_28 rfl) ?_
    refine Eq.trans (s_aloadn f_62_29 rfl) ?_
    refine Eq.trans (s_getI f_62_30 g_62_27 (by decide) kn_132) ?_
    refine Eq.trans (s_icmp (P := (M 132 5) ≤ v3) 139 f_62_33 (by decide) rfl) (ite_cg (fun h2 => ?_) (fun h2 => ?_))
    · rfl
    · refine Eq.trans (s_aloadn f_62_36 rfl) ?_
      refine Eq.trans (s_getR f_62_37 g_62_24 (by decide) kn_132 rf_132_4) ?_
      refine Eq.trans (s_iloadn f_62_40 rfl) ?_
      refine Eq.trans (s_iald f_62_41 kn_137 ln_137) (gd_cg fun h3 => ?_)
      refine Eq.trans (s_bipush f_62_42) ?_
      refine Eq.trans (s_irem f_62_44) (Eq.trans (if_pos (by decide)) ?_)
      refine Eq.trans (s_istore f_62_45 rfl) ?_
      refine Eq.trans (s_aloadn f_62_47 rfl) ?_
      refine Eq.trans (s_getR f_62_48 g_62_24 (by decide) kn_132 rf_132_4) ?_
      refine Eq.trans (s_iloadn f_62_51 rfl) ?_
      refine Eq.trans (s_iald f_62_52 kn_137 ln_137) (gd_cg fun h4 => ?_)
      refine Eq.trans (s_bipush f_62_53) ?_
      refine Eq.trans (s_idiv f_62_55) (Eq.trans (if_pos (by decide)) ?_)
      refine Eq.trans (s_istore f_62_56 rfl) ?_
      refine Eq.trans (s_aloadn f_62_58 rfl) ?_
      refine Eq.trans (s_getR f_62_59 g_62_21 (by decide) kn_132 rf_132_3) ?_
      refine Eq.trans (s_aloadn f_62_62 rfl) ?_
      refine Eq.trans (s_getR f_62_63 g_62_24 (by decide) kn_132 rf_132_4) ?_
      refine Eq.trans (s_iloadn f_62_66 rfl) ?_
      refine Eq.trans (s_iald f_62_67 kn_137 ln_137) (gd_cg fun h5 => ?_)
      refine Eq.trans (s_iald f_62_68 kn_136 ln_136) (gd_cg fun h6 => ?_)
      refine Eq.trans (s_iconst f_62_69) ?_
      refine Eq.trans (s_iadd f_62_70) ?_
      refine Eq.trans (s_istore f_62_71 rfl) ?_
      refine Eq.trans (s_aloadn f_62_73 rfl) ?_
      refine Eq.trans (s_iload f_62_74 rfl) ?_
      refine Eq.trans (s_iconst f_62_76) ?_
      refine Eq.trans (s_isub f_62_77) ?_
      refine Eq.trans (s_iload f_62_78 rfl) ?_
      exact s_call [zI (zw ((((M 137 v3)).tmod 24) - 1)), zI (zw (((M 137 v3)).tdiv 24))] [zR 132] f_62_80 rfl c_62_64 rfl rfl (Nat.le_of_ble_eq_true rfl) rfl
theorem q_62_83 {d : Nat} (v1 v2 v3 v4 v5 v6 s1 : Int) (M : ZM) : Q d 62 83 [zR 132, zI v1, zI v2, zI v3, zI v4, zI v5, zI v6] [zI s1, zR 132] M = Cb (E d 63 [zR 132, zI s1, zI v6] M) (fun v h => zrun (zevl d) 62 88 [zR 132, zI v1, zI v2, zI v3, zI v4, zI v5, zI v6] (v.toList ++ []) h) := by
  refine Eq.trans (s_iload f_62_83 rfl) ?_
  exact s_call [zR 132, zI s1, zI v6] [] f_62_85 rfl c_62_116 rfl rfl (Nat.le_of_ble_eq_true rfl) (by show (zkn SH 132 == zown 63) = true; rw [show zkn SH 132 = 3 from kn_132]; rfl)
theorem q_62_88 {d : Nat} (v1 v2 v3 v4 v5 v6 : Int) (M : ZM) : Q d 62 88 [zR 132, zI v1, zI v2, zI v3, zI v4, zI v5, zI v6] [] M = Cb (E d 150 [zI (zw (v4 + 1)), zI v5] M) (fun v h => zrun (zevl d) 62 98 [zR 132, zI v1, zI v2, zI v3, zI v4, zI v5, zI v6] (v.toList ++ [zR 132]) h) := by
  refine Eq.trans (s_aloadn f_62_88 rfl) ?_
  refine Eq.trans (s_iload f_62_89 rfl) ?_
  refine Eq.trans (s_iconst f_62_91) ?_
  refine Eq.trans (s_iadd f_62_92) ?_
  refine Eq.trans (s_iload f_62_93 rfl) ?_
  exact s_call [zI (zw (v4 + 1)), zI v5] [zR 132] f_62_95 rfl c_62_64 rfl rfl (Nat.le_of_ble_eq_true rfl) rfl
theorem q_62_98 {d : Nat} (v1 v2 v3 v4 v5 v6 s1 : Int) (M : ZM) : Q d 62 98 [zR 132, zI v1, zI v2, zI v3, zI v4, zI v5, zI v6] [zI s1, zR 132] M = Cb (E d 63 [zR 132, zI s1, zI v6] M) (fun v h => zrun (zevl d) 62 103 [zR 132, zI v1, zI v2, zI v3, zI v4, zI v5, zI v6] (v.toList ++ []) h) := by
  refine Eq.trans (s_iload f_62_98 rfl) ?_
  exact s_call [zR 132, zI s1, zI v6] [] f_62_100 rfl c_62_116 rfl rfl (Nat.le_of_ble_eq_true rfl) (by show (zkn SH 132 == zown 63) = true; rw [show zkn SH 132 = 3 from kn_132]; rfl)
theorem q_62_103 {d : Nat} (v1 v2 v3 v4 v5 v6 : Int) (M : ZM) : Q d 62 103 [zR 132, zI v1, zI v2, zI v3, zI v4, zI v5, zI v6] [] M = Cb (E d 150 [zI v4, zI (zw (v5 - 1))] M) (fun v h => zrun (zevl d) 62 113 [zR 132, zI v1, zI v2, zI v3, zI v4, zI v5, zI v6] (v.toList ++ [zR 132]) h) := by
  refine Eq.trans (s_aloadn f_62_103 rfl) ?_
  refine Eq.trans (s_iload f_62_104 rfl) ?_
  refine Eq.trans (s_iload f_62_106 rfl) ?_
  refine Eq.trans (s_iconst f_62_108) ?_
  refine Eq.trans (s_isub f_62_109) ?_
  exact s_call [zI v4, zI (zw (v5 - 1))] [zR 132] f_62_110 rfl c_62_64 rfl rfl (Nat.le_of_ble_eq_true rfl) rfl
theorem q_62_113 {d : Nat} (v1 v2 v3 v4 v5 v6 s1 : Int) (M : ZM) : Q d 62 113 [zR 132, zI v1, zI v2, zI v3, zI v4, zI v5, zI v6] [zI s1, zR 132] M = Cb (E d 63 [zR 132, zI s1, zI v6] M) (fun v h => zrun (zevl d) 62 118 [zR 132, zI v1, zI v2, zI v3, zI v4, zI v5, zI v6] (v.toList ++ []) h) := by
  refine Eq.trans (s_iload f_62_113 rfl) ?_
  exact s_call [zR 132, zI s1, zI v6] [] f_62_115 rfl c_62_116 rfl rfl (Nat.le_of_ble_eq_true rfl) (by show (zkn SH 132 == zown 63) = true; rw [show zkn SH 132 = 3 from kn_132]; rfl)
theorem q_62_118 {d : Nat} (v1 v2 v3 v4 v5 v6 : Int) (M : ZM) : Q d 62 118 [zR 132, zI v1, zI v2, zI v3, zI v4, zI v5, zI v6] [] M = Cb (E d 150 [zI v4, zI (zw (v5 + 1))] M) (fun v h => zrun (zevl d) 62 128 [zR 132, zI v1, zI v2, zI v3, zI v4, zI v5, zI v6] (v.toList ++ [zR 132]) h) := by
  refine Eq.trans (s_aloadn f_62_118 rfl) ?_
  refine Eq.trans (s_iload f_62_119 rfl) ?_
  refine Eq.trans (s_iload f_62_121 rfl) ?_
  refine Eq.trans (s_iconst f_62_123) ?_
  refine Eq.trans (s_iadd f_62_124) ?_
  exact s_call [zI v4, zI (zw (v5 + 1))] [zR 132] f_62_125 rfl c_62_64 rfl rfl (Nat.le_of_ble_eq_true rfl) rfl
theorem q_62_128 {d : Nat} (v1 v2 v3 v4 v5 v6 s1 : Int) (M : ZM) : Q d 62 128 [zR 132, zI v1, zI v2, zI v3, zI v4, zI v5, zI v6] [zI s1, zR 132] M = Cb (E d 63 [zR 132, zI s1, zI v6] M) (fun v h => zrun (zevl d) 62 133 [zR 132, zI v1, zI v2, zI v3, zI v4, zI v5, zI v6] (v.toList ++ []) h) := by
  refine Eq.trans (s_iload f_62_128 rfl) ?_
  exact s_call [zR 132, zI s1, zI v6] [] f_62_130 rfl c_62_116 rfl rfl (Nat.le_of_ble_eq_true rfl) (by show (zkn SH 132 == zown 63) = true; rw [show zkn SH 132 = 3 from kn_132]; rfl)
theorem q_62_133 {d : Nat} (v1 v2 v3 v4 v5 v6 : Int) (M : ZM) : Q d 62 133 [zR 132, zI v1, zI v2, zI v3, zI v4, zI v5, zI v6] [] M = Q d 62 21 [zR 132, zI v1, zI v2, zI (zw (v3 + 1)), zI v4, zI v5, zI v6] [] M := by
  refine Eq.trans (s_iinc f_62_133 rfl rfl) ?_
  refine Eq.trans (s_goto 21 f_62_136 (by decide)) ?_
  rfl
theorem q_62_139 {d : Nat} (v1 v2 v3 : Int) (z4 z5 z6 : ZV) (M : ZM) : Q d 62 139 [zR 132, zI v1, zI v2, zI v3, z4, z5, z6] [] M = if 0 ≤ v2 ∧ v2 < 384 then if (M 136 v2) ≠ (-1) then (if 0 ≤ v2 ∧ v2 < 384 then Rt (some (zI (M 136 v2))) M else none) else (Rt (some (zI (-104))) M) else none := by
  refine Eq.trans (s_aloadn f_62_139 rfl) ?_
  refine Eq.trans (s_getR f_62_140 g_62_21 (by decide) kn_132 rf_132_3) ?_
  refine Eq.trans (s_iloadn f_62_143 rfl) ?_
  refine Eq.trans (s_iald f_62_144 kn_136 ln_136) (gd_cg fun h1 => ?_)
  refine Eq.trans (s_iconst f_62_145) ?_
  refine Eq.trans (s_icmp (P := (M 136 v2) ≠ (-1)) 154 f_62_146 (by decide) rfl) (ite_cg (fun h2 => ?_) (fun h2 => ?_))
  · refine Eq.trans (s_aloadn f_62_154 rfl) ?_
    refine Eq.trans (s_getR f_62_155 g_62_21 (by decide) kn_132 rf_132_3) ?_
    refine Eq.trans (s_iloadn f_62_158 rfl) ?_
    refine Eq.trans (s_iald f_62_159 kn_136 ln_136) (gd_cg fun h3 => ?_)
    exact s_iret f_62_160 t_62
  · refine Eq.trans (s_bipush f_62_149) ?_
    refine Eq.trans (s_goto 160 f_62_151 (by decide)) ?_
    exact s_iret f_62_160 t_62
theorem en_62 {d : Nat} (v1 v2 : Int) (M : ZM) : E (d + 1) 62 [zR 132, zI v1, zI v2] M = Q d 62 0 [zR 132, zI v1, zI v2, zU, zU, zU, zU] [] M := e_in (Nat.le_of_ble_eq_true rfl)
-- DungeonBuilder$FloorPlan.enter(II)V
theorem q_63_0 {d : Nat} (v1 v2 : Int) (M : ZM) : Q d 63 0 [zR 132, zI v1, zI v2] [] M = if v1 = (-1) then (Rt none M) else (if 384 ≤ (M 132 5) then (Rt none M) else (Cb (E d 58 [zR 132, zI v1] M) (fun v h => zrun (zevl d) 63 20 [zR 132, zI v1, zI v2] (v.toList ++ []) h))) := by
  refine Eq.trans (s_iloadn f_63_0 rfl) ?_
  refine Eq.trans (s_iconst f_63_1) ?_
  refine Eq.trans (s_icmp (P := v1 = (-1)) 60 f_63_2 (by decide) rfl) (ite_cg (fun h1 => ?_) (fun h1 => ?_))
  · exact s_vret f_63_60 t_63
  · refine Eq.trans (s_aloadn f_63_5 rfl) ?_
    refine Eq.trans (s_getI f_63_6 g_63_27 (by decide) kn_132) ?_
    refine Eq.trans (s_sipush f_63_9) ?_
    refine Eq.trans (s_icmp (P := 384 ≤ (M 132 5)) 60 f_63_12 (by decide) rfl) (ite_cg (fun h2 => ?_) (fun h2 => ?_))
    · exact s_vret f_63_60 t_63
    · refine Eq.trans (s_aloadn f_63_15 rfl) ?_
      refine Eq.trans (s_iloadn f_63_16 rfl) ?_
      exact s_call [zR 132, zI v1] [] f_63_17 rfl c_63_120 rfl rfl (Nat.le_of_ble_eq_true rfl) (by show (zkn SH 132 == zown 58) = true; rw [show zkn SH 132 = 3 from kn_132]; rfl)
theorem q_63_20 {d : Nat} (v1 v2 s0 : Int) (M : ZM) : Q d 63 20 [zR 132, zI v1, zI v2] [zI s0] M = if s0 = 0 then (Rt none M) else (if 0 ≤ v1 ∧ v1 < 384 then if (M 136 v1) ≠ (-1) then (Rt none M) else (if 0 ≤ v1 ∧ v1 < 384 then if 0 ≤ ((zwr M 136 v1 v2) 132 5) ∧ ((zwr M 136 v1 v2) 132 5) < 384 then Rt none (zwr (zwr (zwr M 136 v1 v2) 137 ((zwr M 136 v1 v2) 132 5) v1) 132 5 (zw (((zwr (zwr M 136 v1 v2) 137 ((zwr M 136 v1 v2) 132 5) v1) 132 5) + 1))) else none else none) else none) := by
  refine Eq.trans (s_if (P := s0 = 0) 60 f_63_20 (by decide) rfl) (ite_cg (fun h1 => ?_) (fun h1 => ?_))
  · exact s_vret f_63_60 t_63
  · refine Eq.trans (s_aloadn f_63_23 rfl) ?_
    refine Eq.trans (s_getR f_63_24 g_63_21 (by decide) kn_132 rf_132_3) ?_
    refine Eq.trans (s_iloadn f_63_27 rfl) ?_
    refine Eq.trans (s_iald f_63_28 kn_136 ln_136) (gd_cg fun h2 => ?_)
    refine Eq.trans (s_iconst f_63_29) ?_
    refine Eq.trans (s_icmp (P := (M 136 v1) ≠ (-1)) 60 f_63_30 (by decide) rfl) (ite_cg (fun h3 => ?_) (fun h3 => ?_))
    · exact s_vret f_63_60 t_63
    · refine Eq.trans (s_aloadn f_63_33 rfl) ?_
      refine Eq.trans (s_getR f_63_34 g_63_21 (by decide) kn_132 rf_132_3) ?_
      refine Eq.trans (s_iloadn f_63_37 rfl) ?_
      refine Eq.trans (s_iloadn f_63_38 rfl) ?_
      refine Eq.trans (s_iast f_63_39 kn_136 ln_136) (gd_cg fun h4 => ?_)
      refine Eq.trans (s_aloadn f_63_40 rfl) ?_
      refine Eq.trans (s_getR f_63_41 g_63_24 (by decide) kn_132 rf_132_4) ?_
      refine Eq.trans (s_aloadn f_63_44 rfl) ?_
      refine Eq.trans (s_getI f_63_45 g_63_27 (by decide) kn_132) ?_
      refine Eq.trans (s_iloadn f_63_48 rfl) ?_
      refine Eq.trans (s_iast f_63_49 kn_137 ln_137) (gd_cg fun h5 => ?_)
      refine Eq.trans (s_aloadn f_63_50 rfl) ?_
      refine Eq.trans (s_dup f_63_51 rfl) ?_
      refine Eq.trans (s_getI f_63_52 g_63_27 (by decide) kn_132) ?_
      refine Eq.trans (s_iconst f_63_55) ?_
      refine Eq.trans (s_iadd f_63_56) ?_
      refine Eq.trans (s_putI f_63_57 g_63_27 (by decide) kn_132) ?_
      exact s_vret f_63_60 t_63
theorem en_63 {d : Nat} (v1 v2 : Int) (M : ZM) : E (d + 1) 63 [zR 132, zI v1, zI v2] M = Q d 63 0 [zR 132, zI v1, zI v2] [] M := e_in (Nat.le_of_ble_eq_true rfl)
-- DungeonBuilder$History.prepare(LDungeonBuilder$Dungeon;)V
theorem q_65_0 {d : Nat} (M : ZM) : Q d 65 0 [zR 19, zR 1] [] M = if 0 ≤ (M 19 1) ∧ (M 19 1) < 7 then Cb (E d 11 [zR (21 + 9 * ((M 19 1)).toNat), zR 1] M) (fun v h => zrun (zevl d) 65 13 [zR 19, zR 1] (v.toList ++ []) h) else none := by
  refine Eq.trans (s_aloadn f_65_0 rfl) ?_
  refine Eq.trans (s_getR f_65_1 g_65_13 (by decide) kn_19 rf_19_0) ?_
  refine Eq.trans (s_aloadn f_65_4 rfl) ?_
  refine Eq.trans (s_getI f_65_5 g_65_17 (by decide) kn_19) ?_
  refine Eq.trans (s_aald20 f_65_8) (gd_cg fun h1 => ?_)
  refine Eq.trans (s_aloadn f_65_9 rfl) ?_
  exact s_call [zR (21 + 9 * ((M 19 1)).toNat), zR 1] [] f_65_10 rfl c_65_25 rfl rfl (Nat.le_of_ble_eq_true rfl) (by show (zkn SH (21 + 9 * ((M 19 1)).toNat) == zown 11) = true; rw [show zkn SH (21 + 9 * ((M 19 1)).toNat) = 1 from (dg_kn (bef_dg h1))]; rfl)
theorem q_65_13 {d : Nat} (M : ZM) : Q d 65 13 [zR 19, zR 1] [] M = Rt none M := by
  exact s_vret f_65_13 t_65
theorem en_65 {d : Nat} (M : ZM) : E (d + 1) 65 [zR 19, zR 1] M = Q d 65 0 [zR 19, zR 1] [] M := e_in (Nat.le_of_ble_eq_true rfl)
-- DungeonBuilder$History.commit()V
theorem q_66_0 {d : Nat} (M : ZM) : Q d 66 0 [zR 19] [] M = Rt none (zwr (zwr M 19 1 (((zw ((M 19 1) + 1))).tmod 7)) 19 2 (if 6 < (zw (((zwr M 19 1 (((zw ((M 19 1) + 1))).tmod 7)) 19 2) + 1)) then 6 else (zw (((zwr M 19 1 (((zw ((M 19 1) + 1))).tmod 7)) 19 2) + 1)))) := by
  refine Eq.trans (s_aloadn f_66_0 rfl) ?_
  refine Eq.trans (s_aloadn f_66_1 rfl) ?_
  refine Eq.trans (s_getI f_66_2 g_66_17 (by decide) kn_19) ?_
  refine Eq.trans (s_iconst f_66_5) ?_
  refine Eq.trans (s_iadd f_66_6) ?_
  refine Eq.trans (s_bipush f_66_7) ?_
  refine Eq.trans (s_irem f_66_9) (Eq.trans (if_pos (by decide)) ?_)
  refine Eq.trans (s_putI f_66_10 g_66_17 (by decide) kn_19) ?_
  refine Eq.trans (s_aloadn f_66_13 rfl) ?_
  refine Eq.trans (s_aloadn f_66_14 rfl) ?_
  refine Eq.trans (s_getI f_66_15 g_66_21 (by decide) kn_19) ?_
  refine Eq.trans (s_iconst f_66_18) ?_
  refine Eq.trans (s_iadd f_66_19) ?_
  refine Eq.trans (s_bipush f_66_20) ?_
  refine Eq.trans (s_min f_66_22 m_66_29 (Nat.le_of_ble_eq_true rfl)) ?_
  refine Eq.trans (s_putI f_66_25 g_66_21 (by decide) kn_19) ?_
  exact s_vret f_66_28 t_66
theorem en_66 {d : Nat} (M : ZM) : E (d + 1) 66 [zR 19] M = Q d 66 0 [zR 19] [] M := e_in (Nat.le_of_ble_eq_true rfl)
-- DungeonBuilder$History.rollBack(LDungeonBuilder$Dungeon;)V
theorem q_67_0 {d : Nat} (M : ZM) : Q d 67 0 [zR 19, zR 1] [] M = if 0 ≤ (M 19 1) ∧ (M 19 1) < 7 then Cb (E d 11 [zR 1, zR (21 + 9 * ((M 19 1)).toNat)] M) (fun v h => zrun (zevl d) 67 13 [zR 19, zR 1] (v.toList ++ []) h) else none := by
  refine Eq.trans (s_aloadn f_67_0 rfl) ?_
  refine Eq.trans (s_aloadn f_67_1 rfl) ?_
  refine Eq.trans (s_getR f_67_2 g_67_13 (by decide) kn_19 rf_19_0) ?_
  refine Eq.trans (s_aloadn f_67_5 rfl) ?_
  refine Eq.trans (s_getI f_67_6 g_67_17 (by decide) kn_19) ?_
  refine Eq.trans (s_aald20 f_67_9) (gd_cg fun h1 => ?_)
  exact s_call [zR 1, zR (21 + 9 * ((M 19 1)).toNat)] [] f_67_10 rfl c_67_25 rfl rfl (Nat.le_of_ble_eq_true rfl) (by show (zkn SH 1 == zown 11) = true; rw [show zkn SH 1 = 1 from kn_1]; rfl)
theorem q_67_13 {d : Nat} (M : ZM) : Q d 67 13 [zR 19, zR 1] [] M = Rt none M := by
  exact s_vret f_67_13 t_67
theorem en_67 {d : Nat} (M : ZM) : E (d + 1) 67 [zR 19, zR 1] M = Q d 67 0 [zR 19, zR 1] [] M := e_in (Nat.le_of_ble_eq_true rfl)
-- DungeonBuilder$History.stepBack(LDungeonBuilder$Dungeon;)I
theorem q_68_0 {d : Nat} (M : ZM) : Q d 68 0 [zR 19, zR 1] [] M = if (M 19 2) ≠ 0 then (if 0 ≤ ((zwr (zwr M 19 2 (zw ((M 19 2) - 1))) 19 1 (((zw ((zw (((zwr M 19 2 (zw ((M 19 2) - 1))) 19 1) + 7)) - 1))).tmod 7)) 19 1) ∧ ((zwr (zwr M 19 2 (zw ((M 19 2) - 1))) 19 1 (((zw ((zw (((zwr M 19 2 (zw ((M 19 2) - 1))) 19 1) + 7)) - 1))).tmod 7)) 19 1) < 7 then Cb (E d 11 [zR 1, zR (21 + 9 * (((zwr (zwr M 19 2 (zw ((M 19 2) - 1))) 19 1 (((zw ((zw (((zwr M 19 2 (zw ((M 19 2) - 1))) 19 1) + 7)) - 1))).tmod 7)) 19 1)).toNat)] (zwr (zwr M 19 2 (zw ((M 19 2) - 1))) 19 1 (((zw ((zw (((zwr M 19 2 (zw ((M 19 2) - 1))) 19 1) + 7)) - 1))).tmod 7))) (fun v h => zrun (zevl d) 68 49 [zR 19, zR 1] (v.toList ++ []) h) else none) else (Rt (some (zI (-104))) M) := by
  refine Eq.trans (s_aloadn f_68_0 rfl) ?_
  refine Eq.trans (s_getI f_68_1 g_68_21 (by decide) kn_19) ?_
  refine Eq.trans (s_if (P := (M 19 2) ≠ 0) 10 f_68_4 (by decide) rfl) (ite_cg (fun h1 => ?_) (fun h1 => ?_))
  · refine Eq.trans (s_aloadn f_68_10 rfl) ?_
    refine Eq.trans (s_dup f_68_11 rfl) ?_
    refine Eq.trans (s_getI f_68_12 g_68_21 (by decide) kn_19) ?_
    refine Eq.trans (s_iconst f_68_15) ?_
    refine Eq.trans (s_isub f_68_16) ?_
    refine Eq.trans (s_putI f_68_17 g_68_21 (by decide) kn_19) ?_
    refine Eq.trans (s_aloadn f_68_20 rfl) ?_
    refine Eq.trans (s_aloadn f_68_21 rfl) ?_
    refine Eq.trans (s_getI f_68_22 g_68_17 (by decide) kn_19) ?_
    refine Eq.trans (s_bipush f_68_25) ?_
    refine Eq.trans (s_iadd f_68_27) ?_
    refine Eq.trans (s_iconst f_68_28) ?_
    refine Eq.trans (s_isub f_68_29) ?_
    refine Eq.trans (s_bipush f_68_30) ?_
    refine Eq.trans (s_irem f_68_32) (Eq.trans (if_pos (by decide)) ?_)
    refine Eq.trans (s_putI f_68_33 g_68_17 (by decide) kn_19) ?_
    refine Eq.trans (s_aloadn f_68_36 rfl) ?_
    refine Eq.trans (s_aloadn f_68_37 rfl) ?_
    refine Eq.trans (s_getR f_68_38 g_68_13 (by decide) kn_19 rf_19_0) ?_
    refine Eq.trans (s_aloadn f_68_41 rfl) ?_
    refine Eq.trans (s_getI f_68_42 g_68_17 (by decide) kn_19) ?_
    refine Eq.trans (s_aald20 f_68_45) (gd_cg fun h2 => ?_)
    exact s_call [zR 1, zR (21 + 9 * (((zwr (zwr M 19 2 (zw ((M 19 2) - 1))) 19 1 (((zw ((zw (((zwr M 19 2 (zw ((M 19 2) - 1))) 19 1) + 7)) - 1))).tmod 7)) 19 1)).toNat)] [] f_68_46 rfl c_68_25 rfl rfl (Nat.le_of_ble_eq_true rfl) (by show (zkn SH 1 == zown 11) = true; rw [show zkn SH 1 = 1 from kn_1]; rfl)
  · refine Eq.trans (s_bipush f_68_7) ?_
    exact s_iret f_68_9 t_68
theorem q_68_49 {d : Nat} (M : ZM) : Q d 68 49 [zR 19, zR 1] [] M = Rt (some (zI (M 19 2))) M := by
  refine Eq.trans (s_aloadn f_68_49 rfl) ?_
  refine Eq.trans (s_getI f_68_50 g_68_21 (by decide) kn_19) ?_
  exact s_iret f_68_53 t_68
theorem en_68 {d : Nat} (M : ZM) : E (d + 1) 68 [zR 19, zR 1] M = Q d 68 0 [zR 19, zR 1] [] M := e_in (Nat.le_of_ble_eq_true rfl)
-- DungeonBuilder$History.forget()V
theorem q_69_0 {d : Nat} (M : ZM) : Q d 69 0 [zR 19] [] M = Rt none (zwr M 19 2 0) := by
  refine Eq.trans (s_aloadn f_69_0 rfl) ?_
  refine Eq.trans (s_iconst f_69_1) ?_
  refine Eq.trans (s_putI f_69_2 g_69_21 (by decide) kn_19) ?_
  exact s_vret f_69_5 t_69
theorem en_69 {d : Nat} (M : ZM) : E (d + 1) 69 [zR 19] M = Q d 69 0 [zR 19] [] M := e_in (Nat.le_of_ble_eq_true rfl)
-- DungeonBuilder$Locksmith.fit(LDungeonBuilder$Dungeon;)I
theorem q_71_0 {d : Nat} (M : ZM) : Q d 71 0 [zR 118, zR 1, zU, zU, zU] [] M = Cb (E d 72 [zR 1] M) (fun v h => zrun (zevl d) 71 4 [zR 118, zR 1, zU, zU, zU] (v.toList ++ []) h) := by
  refine Eq.trans (s_aloadn f_71_0 rfl) ?_
  exact s_call [zR 1] [] f_71_1 rfl c_71_15 rfl rfl (Nat.le_of_ble_eq_true rfl) rfl
theorem q_71_4 {d : Nat} (s0 : Int) (M : ZM) : Q d 71 4 [zR 118, zR 1, zU, zU, zU] [zI s0] M = if s0 ≠ (-1) then (Cb (E d 73 [zR 1] M) (fun v h => zrun (zevl d) 71 17 [zR 118, zR 1, zI s0, zU, zU] (v.toList ++ []) h)) else (Rt (some (zI (-104))) M) := by
  refine Eq.trans (s_istoren f_71_4 rfl) ?_
  refine Eq.trans (s_iloadn f_71_5 rfl) ?_
  refine Eq.trans (s_iconst f_71_6) ?_
  refine Eq.trans (s_icmp (P := s0 ≠ (-1)) 13 f_71_7 (by decide) rfl) (ite_cg (fun h1 => ?_) (fun h1 => ?_))
  · refine Eq.trans (s_aloadn f_71_13 rfl) ?_
    exact s_call [zR 1] [] f_71_14 rfl c_71_19 rfl rfl (Nat.le_of_ble_eq_true rfl) rfl
  · refine Eq.trans (s_bipush f_71_10) ?_
    exact s_iret f_71_12 t_71
theorem q_71_17 {d : Nat} (v2 s0 : Int) (M : ZM) : Q d 71 17 [zR 118, zR 1, zI v2, zU, zU] [zI s0] M = if s0 ≠ (-1) then (Cb (E d 74 [zR 118, zR 1, zI v2] M) (fun v h => zrun (zevl d) 71 32 [zR 118, zR 1, zI v2, zI s0, zU] (v.toList ++ []) h)) else (Rt (some (zI (-103))) M) := by
  refine Eq.trans (s_istoren f_71_17 rfl) ?_
  refine Eq.trans (s_iloadn f_71_18 rfl) ?_
  refine Eq.trans (s_iconst f_71_19) ?_
  refine Eq.trans (s_icmp (P := s0 ≠ (-1)) 26 f_71_20 (by decide) rfl) (ite_cg (fun h1 => ?_) (fun h1 => ?_))
  · refine Eq.trans (s_aloadn f_71_26 rfl) ?_
    refine Eq.trans (s_aloadn f_71_27 rfl) ?_
    refine Eq.trans (s_iloadn f_71_28 rfl) ?_
    exact s_call [zR 118, zR 1, zI v2] [] f_71_29 rfl c_71_22 rfl rfl (Nat.le_of_ble_eq_true rfl) (by show (zkn SH 118 == zown 74) = true; rw [show zkn SH 118 = 5 from kn_118]; rfl)
  · refine Eq.trans (s_bipush f_71_23) ?_
    exact s_iret f_71_25 t_71
theorem q_71_32 {d : Nat} (v2 v3 s0 : Int) (M : ZM) : Q d 71 32 [zR 118, zR 1, zI v2, zI v3, zU] [zI s0] M = if s0 ≠ (-1) then (if 0 ≤ v2 ∧ v2 < 20 then if 0 ≤ s0 ∧ s0 < 12 then Rt (some (zI v2)) (zwr (zwr M 9 v2 v3) 6 s0 v3) else none else none) else (Rt (some (zI (-105))) M) := by
  refine Eq.trans (s_istore f_71_32 rfl) ?_
  refine Eq.trans (s_iload f_71_34 rfl) ?_
  refine Eq.trans (s_iconst f_71_36) ?_
  refine Eq.trans (s_icmp (P := s0 ≠ (-1)) 43 f_71_37 (by decide) rfl) (ite_cg (fun h1 => ?_) (fun h1 => ?_))
  · refine Eq.trans (s_aloadn f_71_43 rfl) ?_
    refine Eq.trans (s_getR f_71_44 g_71_26 (by decide) kn_1 rf_1_7) ?_
    refine Eq.trans (s_iloadn f_71_47 rfl) ?_
    refine Eq.trans (s_iloadn f_71_48 rfl) ?_
    refine Eq.trans (s_iast f_71_49 kn_9 ln_9) (gd_cg fun h2 => ?_)
    refine Eq.trans (s_aloadn f_71_50 rfl) ?_
    refine Eq.trans (s_getR f_71_51 g_71_31 (by decide) kn_1 rf_1_4) ?_
    refine Eq.trans (s_iload f_71_54 rfl) ?_
    refine Eq.trans (s_iloadn f_71_56 rfl) ?_
    refine Eq.trans (s_iast f_71_57 kn_6 ln_6) (gd_cg fun h3 => ?_)
    refine Eq.trans (s_iloadn f_71_58 rfl) ?_
    exact s_iret f_71_59 t_71
  · refine Eq.trans (s_bipush f_71_40) ?_
    exact s_iret f_71_42 t_71
theorem en_71 {d : Nat} (M : ZM) : E (d + 1) 71 [zR 118, zR 1] M = Q d 71 0 [zR 118, zR 1, zU, zU, zU] [] M := e_in (Nat.le_of_ble_eq_true rfl)
-- DungeonBuilder$Locksmith.bestCorridor(LDungeonBuilder$Dungeon;)I
theorem q_72_0 {d : Nat} (M : ZM) : Q d 72 0 [zR 1, zU, zU, zU, zU, zU] [] M = Q d 72 6 [zR 1, zI (-1), zI 0, zI 0, zU, zU] [] M := by
  refine Eq.trans (s_iconst f_72_0) ?_
  refine Eq.trans (s_istoren f_72_1 rfl) ?_
  refine Eq.trans (s_iconst f_72_2) ?_
  refine Eq.trans (s_istoren f_72_3 rfl) ?_
  refine Eq.trans (s_iconst f_72_4) ?_
  refine Eq.trans (s_istoren f_72_5 rfl) ?_
  rfl
theorem q_72_6 {d : Nat} (v1 v2 v3 : Int) (z4 z5 : ZV) (M : ZM) : Q d 72 6 [zR 1, zI v1, zI v2, zI v3, z4, z5] [] M = if (M 1 9) ≤ v3 then (Rt (some (zI v1)) M) else (Cb (E d 79 [zR 1, zI v3] M) (fun v h => zrun (zevl d) 72 19 [zR 1, zI v1, zI v2, zI v3, z4, z5] (v.toList ++ []) h)) := by
  refine Eq.trans (s_iloadn f_72_6 rfl) ?_
  refine Eq.trans (s_aloadn f_72_7 rfl) ?_
  refine Eq.trans (s_getI f_72_8 g_72_34 (by decide) kn_1) ?_
  refine Eq.trans (s_icmp (P := (M 1 9) ≤ v3) 75 f_72_11 (by decide) rfl) (ite_cg (fun h1 => ?_) (fun h1 => ?_))
  · refine Eq.trans (s_iloadn f_72_75 rfl) ?_
    exact s_iret f_72_76 t_72
  · refine Eq.trans (s_aloadn f_72_14 rfl) ?_
    refine Eq.trans (s_iloadn f_72_15 rfl) ?_
    exact s_call [zR 1, zI v3] [] f_72_16 rfl c_72_38 rfl rfl (Nat.le_of_ble_eq_true rfl) rfl
theorem q_72_19 {d : Nat} (v1 v2 v3 s0 : Int) (z4 z5 : ZV) (M : ZM) : Q d 72 19 [zR 1, zI v1, zI v2, zI v3, z4, z5] [zI s0] M = Cb (E d 249 [zI s0] M) (fun v h => zrun (zevl d) 72 22 [zR 1, zI v1, zI v2, zI v3, z4, z5] (v.toList ++ []) h) := by
  exact s_call [zI s0] [] f_72_19 rfl c_72_43 rfl rfl (Nat.le_of_ble_eq_true rfl) rfl
theorem q_72_22 {d : Nat} (v1 v2 v3 s0 : Int) (z4 z5 : ZV) (M : ZM) : Q d 72 22 [zR 1, zI v1, zI v2, zI v3, z4, z5] [zI s0] M = if 0 ≤ v3 ∧ v3 < 20 then if (M 9 v3) ≠ (-1) then (Q d 72 6 [zR 1, zI v1, zI v2, zI (zw (v3 + 1)), zI s0, zI (if 0 ≤ (zw ((zw (2 * s0)) - (M 1 8))) then (zw ((zw (2 * s0)) - (M 1 8))) else zw (0 - (zw ((zw (2 * s0)) - (M 1 8)))))] [] M) else (if s0 ≤ 0 then (Q d 72 6 [zR 1, zI v1, zI v2, zI (zw (v3 + 1)), zI s0, zI (if 0 ≤ (zw ((zw (2 * s0)) - (M 1 8))) then (zw ((zw (2 * s0)) - (M 1 8))) else zw (0 - (zw ((zw (2 * s0)) - (M 1 8)))))] [] M) else (if v1 = (-1) then (Q d 72 6 [zR 1, zI v3, zI (if 0 ≤ (zw ((zw (2 * s0)) - (M 1 8))) then (zw ((zw (2 * s0)) - (M 1 8))) else zw (0 - (zw ((zw (2 * s0)) - (M 1 8))))), zI (zw (v3 + 1)), zI s0, zI (if 0 ≤ (zw ((zw (2 * s0)) - (M 1 8))) then (zw ((zw (2 * s0)) - (M 1 8))) else zw (0 - (zw ((zw (2 * s0)) - (M 1 8)))))] [] M) else (if v2 ≤ (if 0 ≤ (zw ((zw (2 * s0)) - (M 1 8))) then (zw ((zw (2 * s0)) - (M 1 8))) else zw (0 - (zw ((zw (2 * s0)) - (M 1 8))))) then (Q d 72 6 [zR 1, zI v1, zI v2, zI (zw (v3 + 1)), zI s0, zI (if 0 ≤ (zw ((zw (2 * s0)) - (M 1 8))) then (zw ((zw (2 * s0)) - (M 1 8))) else zw (0 - (zw ((zw (2 * s0)) - (M 1 8)))))] [] M) else (Q d 72 6 [zR 1, zI v3, zI (if 0 ≤ (zw ((zw (2 * s0)) - (M 1 8))) then (zw ((zw (2 * s0)) - (M 1 8))) else zw (0 - (zw ((zw (2 * s0)) - (M 1 8))))), zI (zw (v3 + 1)), zI s0, zI (if 0 ≤ (zw ((zw (2 * s0)) - (M 1 8))) then (zw ((zw (2 * s0)) - (M 1 8))) else zw (0 - (zw ((zw (2 * s0)) - (M 1 8)))))] [] M)))) else none := by
  refine Eq.trans (s_istore f_72_22 rfl) ?_
  refine Eq.trans (s_iconst f_72_24) ?_
  refine Eq.trans (s_iload f_72_25 rfl) ?_
  refine Eq.trans (s_imul f_72_27) ?_
  refine Eq.trans (s_aloadn f_72_28 rfl) ?_
  refine Eq.trans (s_getI f_72_29 g_72_49 (by decide) kn_1) ?_
  refine Eq.trans (s_isub f_72_32) ?_
  refine Eq.trans (s_abs f_72_33 m_72_52 (Nat.le_of_ble_eq_true rfl)) ?_
  refine Eq.trans (s_istore f_72_36 rfl) ?_
  refine Eq.trans (s_aloadn f_72_38 rfl) ?_
  refine Eq.trans (s_getR f_72_39 g_72_26 (by decide) kn_1 rf_1_7) ?_
  refine Eq.trans (s_iloadn f_72_42 rfl) ?_
  refine Eq.trans (s_iald f_72_43 kn_9 ln_9) (gd_cg fun h1 => ?_)
  refine Eq.trans (s_iconst f_72_44) ?_
  refine Eq.trans (s_icmp (P := (M 9 v3) ≠ (-1)) 69 f_72_45 (by decide) rfl) (ite_cg (fun h2 => ?_) (fun h2 => ?_))
  · refine Eq.trans (s_iinc f_72_69 rfl rfl) ?_
    refine Eq.trans (s_goto 6 f_72_72 (by decide)) ?_
    rfl
  · refine Eq.trans (s_iload f_72_48 rfl) ?_
    refine Eq.trans (s_if (P := s0 ≤ 0) 69 f_72_50 (by decide) rfl) (ite_cg (fun h3 => ?_) (fun h3 => ?_))
    · refine Eq.trans (s_iinc f_72_69 rfl rfl) ?_
      refine Eq.trans (s_goto 6 f_72_72 (by decide)) ?_
      rfl
    · refine Eq.trans (s_iloadn f_72_53 rfl) ?_
      refine Eq.trans (s_iconst f_72_54) ?_
      refine Eq.trans (s_icmp (P := v1 = (-1)) 64 f_72_55 (by decide) rfl) (ite_cg (fun h4 => ?_) (fun h4 => ?_))
      · refine Eq.trans (s_iloadn f_72_64 rfl) ?_
        refine Eq.trans (s_istoren f_72_65 rfl) ?_
        refine Eq.trans (s_iload f_72_66 rfl) ?_
        refine Eq.trans (s_istoren f_72_68 rfl) ?_
        refine Eq.trans (s_iinc f_72_69 rfl rfl) ?_
        refine Eq.trans (s_goto 6 f_72_72 (by decide)) ?_
        rfl
      · refine Eq.trans (s_iload f_72_58 rfl) ?_
        refine Eq.trans (s_iloadn f_72_60 rfl) ?_
        refine Eq.trans (s_icmp (P := v2 ≤ (if 0 ≤ (zw ((zw (2 * s0)) - (M 1 8))) then (zw ((zw (2 * s0)) - (M 1 8))) else zw (0 - (zw ((zw (2 * s0)) - (M 1 8)))))) 69 f_72_61 (by decide) rfl) (ite_cg (fun h5 => ?_) (fun h5 => ?_))
        · refine Eq.trans (s_iinc f_72_69 rfl rfl) ?_
          refine Eq.trans (s_goto 6 f_72_72 (by decide)) ?_
          rfl
        · refine Eq.trans (s_iloadn f_72_64 rfl) ?_
          refine Eq.trans (s_istoren f_72_65 rfl) ?_
          refine Eq.trans (s_iload f_72_66 rfl) ?_
          refine Eq.trans (s_istoren f_72_68 rfl) ?_
          refine Eq.trans (s_iinc f_72_69 rfl rfl) ?_
          refine Eq.trans (s_goto 6 f_72_72 (by decide)) ?_
          rfl
theorem en_72 {d : Nat} (M : ZM) : E (d + 1) 72 [zR 1] M = Q d 72 0 [zR 1, zU, zU, zU, zU, zU] [] M := e_in (Nat.le_of_ble_eq_true rfl)
-- DungeonBuilder$Locksmith.freeColor(LDungeonBuilder$Dungeon;)I
theorem q_73_0 {d : Nat} (M : ZM) : Q d 73 0 [zR 1, zU, zU] [] M = Q d 73 4 [zR 1, zI 0, zI 0] [] M := by
  refine Eq.trans (s_iconst f_73_0) ?_
  refine Eq.trans (s_istoren f_73_1 rfl) ?_
  refine Eq.trans (s_iconst f_73_2) ?_
  refine Eq.trans (s_istoren f_73_3 rfl) ?_
  rfl
theorem q_73_4 {d : Nat} (v1 v2 : Int) (M : ZM) : Q d 73 4 [zR 1, zI v1, zI v2] [] M = if (M 1 8) ≤ v2 then (Q d 73 28 [zR 1, zI v1, zI 0] [] M) else (Cb (E d 36 [zR 1, zI v2] M) (fun v h => zrun (zevl d) 73 18 [zR 1, zI v1, zI v2] (v.toList ++ [zI v1]) h)) := by
  refine Eq.trans (s_iloadn f_73_4 rfl) ?_
  refine Eq.trans (s_aloadn f_73_5 rfl) ?_
  refine Eq.trans (s_getI f_73_6 g_73_49 (by decide) kn_1) ?_
  refine Eq.trans (s_icmp (P := (M 1 8) ≤ v2) 26 f_73_9 (by decide) rfl) (ite_cg (fun h1 => ?_) (fun h1 => ?_))
  · refine Eq.trans (s_iconst f_73_26) ?_
    refine Eq.trans (s_istoren f_73_27 rfl) ?_
    rfl
  · refine Eq.trans (s_iloadn f_73_12 rfl) ?_
    refine Eq.trans (s_aloadn f_73_13 rfl) ?_
    refine Eq.trans (s_iloadn f_73_14 rfl) ?_
    exact s_call [zR 1, zI v2] [zI v1] f_73_15 rfl c_73_57 rfl rfl (Nat.le_of_ble_eq_true rfl) (by show (zkn SH 1 == zown 36) = true; rw [show zkn SH 1 = 1 from kn_1]; rfl)
theorem q_73_18 {d : Nat} (v1 v2 s0 s1 : Int) (M : ZM) : Q d 73 18 [zR 1, zI v1, zI v2] [zI s1, zI s0] M = Q d 73 4 [zR 1, zI (zor s0 s1), zI (zw (v2 + 1))] [] M := by
  refine Eq.trans (s_ior f_73_18) ?_
  refine Eq.trans (s_istoren f_73_19 rfl) ?_
  refine Eq.trans (s_iinc f_73_20 rfl rfl) ?_
  refine Eq.trans (s_goto 4 f_73_23 (by decide)) ?_
  rfl
theorem q_73_28 {d : Nat} (v1 v2 : Int) (M : ZM) : Q d 73 28 [zR 1, zI v1, zI v2] [] M = if (M 1 9) ≤ v2 then (Q d 73 69 [zR 1, zI v1, zI 0] [] M) else (if 0 ≤ v2 ∧ v2 < 20 then if (M 9 v2) ≠ (-1) then (if 0 ≤ v2 ∧ v2 < 20 then Q d 73 28 [zR 1, zI (zor v1 (zshl 1 (M 9 v2))), zI (zw (v2 + 1))] [] M else none) else (Q d 73 28 [zR 1, zI (zor v1 0), zI (zw (v2 + 1))] [] M) else none) := by
  refine Eq.trans (s_iloadn f_73_28 rfl) ?_
  refine Eq.trans (s_aloadn f_73_29 rfl) ?_
  refine Eq.trans (s_getI f_73_30 g_73_34 (by decide) kn_1) ?_
  refine Eq.trans (s_icmp (P := (M 1 9) ≤ v2) 67 f_73_33 (by decide) rfl) (ite_cg (fun h1 => ?_) (fun h1 => ?_))
  · refine Eq.trans (s_iconst f_73_67) ?_
    refine Eq.trans (s_istoren f_73_68 rfl) ?_
    rfl
  · refine Eq.trans (s_iloadn f_73_36 rfl) ?_
    refine Eq.trans (s_aloadn f_73_37 rfl) ?_
    refine Eq.trans (s_getR f_73_38 g_73_26 (by decide) kn_1 rf_1_7) ?_
    refine Eq.trans (s_iloadn f_73_41 rfl) ?_
    refine Eq.trans (s_iald f_73_42 kn_9 ln_9) (gd_cg fun h2 => ?_)
    refine Eq.trans (s_iconst f_73_43) ?_
    refine Eq.trans (s_icmp (P := (M 9 v2) ≠ (-1)) 51 f_73_44 (by decide) rfl) (ite_cg (fun h3 => ?_) (fun h3 => ?_))
    · refine Eq.trans (s_iconst f_73_51) ?_
      refine Eq.trans (s_aloadn f_73_52 rfl) ?_
      refine Eq.trans (s_getR f_73_53 g_73_26 (by decide) kn_1 rf_1_7) ?_
      refine Eq.trans (s_iloadn f_73_56 rfl) ?_
      refine Eq.trans (s_iald f_73_57 kn_9 ln_9) (gd_cg fun h4 => ?_)
      refine Eq.trans (s_ishl f_73_58) ?_
      refine Eq.trans (s_ior f_73_59) ?_
      refine Eq.trans (s_istoren f_73_60 rfl) ?_
      refine Eq.trans (s_iinc f_73_61 rfl rfl) ?_
      refine Eq.trans (s_goto 28 f_73_64 (by decide)) ?_
      rfl
    · refine Eq.trans (s_iconst f_73_47) ?_
      refine Eq.trans (s_goto 59 f_73_48 (by decide)) ?_
      refine Eq.trans (s_ior f_73_59) ?_
      refine Eq.trans (s_istoren f_73_60 rfl) ?_
      refine Eq.trans (s_iinc f_73_61 rfl rfl) ?_
      refine Eq.trans (s_goto 28 f_73_64 (by decide)) ?_
      rfl
theorem q_73_69 {d : Nat} (v1 v2 : Int) (M : ZM) : Q d 73 69 [zR 1, zI v1, zI v2] [] M = if 6 ≤ v2 then (Rt (some (zI (-1))) M) else (Cb (E d 149 [zI v1, zI v2] M) (fun v h => zrun (zevl d) 73 80 [zR 1, zI v1, zI v2] (v.toList ++ []) h)) := by
  refine Eq.trans (s_iloadn f_73_69 rfl) ?_
  refine Eq.trans (s_bipush f_73_70) ?_
  refine Eq.trans (s_icmp (P := 6 ≤ v2) 91 f_73_72 (by decide) rfl) (ite_cg (fun h1 => ?_) (fun h1 => ?_))
  · refine Eq.trans (s_iconst f_73_91) ?_
    exact s_iret f_73_92 t_73
  · refine Eq.trans (s_iloadn f_73_75 rfl) ?_
    refine Eq.trans (s_iloadn f_73_76 rfl) ?_
    exact s_call [zI v1, zI v2] [] f_73_77 rfl c_73_60 rfl rfl (Nat.le_of_ble_eq_true rfl) rfl
theorem q_73_80 {d : Nat} (v1 v2 s0 : Int) (M : ZM) : Q d 73 80 [zR 1, zI v1, zI v2] [zI s0] M = if s0 ≠ 0 then (Q d 73 69 [zR 1, zI v1, zI (zw (v2 + 1))] [] M) else (Rt (some (zI v2)) M) := by
  refine Eq.trans (s_if (P := s0 ≠ 0) 85 f_73_80 (by decide) rfl) (ite_cg (fun h1 => ?_) (fun h1 => ?_))
  · refine Eq.trans (s_iinc f_73_85 rfl rfl) ?_
    refine Eq.trans (s_goto 69 f_73_88 (by decide)) ?_
    rfl
  · refine Eq.trans (s_iloadn f_73_83 rfl) ?_
    exact s_iret f_73_84 t_73
theorem en_73 {d : Nat} (M : ZM) : E (d + 1) 73 [zR 1] M = Q d 73 0 [zR 1, zU, zU] [] M := e_in (Nat.le_of_ble_eq_true rfl)
-- DungeonBuilder$Locksmith.bestRoom(LDungeonBuilder$Dungeon;I)I
theorem q_74_0 {d : Nat} (v2 : Int) (M : ZM) : Q d 74 0 [zR 118, zR 1, zI v2, zU, zU, zU, zU] [] M = Cb (E d 77 [zR 1] M) (fun v h => zrun (zevl d) 74 5 [zR 118, zR 1, zI v2, zU, zU, zU, zU] (v.toList ++ [zR 1]) h) := by
  refine Eq.trans (s_aloadn f_74_0 rfl) ?_
  refine Eq.trans (s_aloadn f_74_1 rfl) ?_
  exact s_call [zR 1] [zR 1] f_74_2 rfl c_74_64 rfl rfl (Nat.le_of_ble_eq_true rfl) rfl
theorem q_74_5 {d : Nat} (v2 s1 : Int) (M : ZM) : Q d 74 5 [zR 118, zR 1, zI v2, zU, zU, zU, zU] [zI s1, zR 1] M = Cb (E d 75 [zR 1, zI s1, zI 0, zI 0, zI v2] M) (fun v h => zrun (zevl d) 74 11 [zR 118, zR 1, zI v2, zU, zU, zU, zU] (v.toList ++ []) h) := by
  refine Eq.trans (s_iconst f_74_5) ?_
  refine Eq.trans (s_iconst f_74_6) ?_
  refine Eq.trans (s_iloadn f_74_7 rfl) ?_
  exact s_call [zR 1, zI s1, zI 0, zI 0, zI v2] [] f_74_8 rfl c_74_67 rfl rfl (Nat.le_of_ble_eq_true rfl) rfl
theorem q_74_11 {d : Nat} (v2 s0 : Int) (M : ZM) : Q d 74 11 [zR 118, zR 1, zI v2, zU, zU, zU, zU] [zI s0] M = Cb (E d 82 [zR 1, zI (M 1 10), zR 119] M) (fun v h => zrun (zevl d) 74 24 [zR 118, zR 1, zI v2, zI s0, zU, zU, zU] (v.toList ++ []) h) := by
  refine Eq.trans (s_istoren f_74_11 rfl) ?_
  refine Eq.trans (s_aloadn f_74_12 rfl) ?_
  refine Eq.trans (s_aloadn f_74_13 rfl) ?_
  refine Eq.trans (s_getI f_74_14 g_74_71 (by decide) kn_1) ?_
  refine Eq.trans (s_aloadn f_74_17 rfl) ?_
  refine Eq.trans (s_getR f_74_18 g_74_9 (by decide) kn_118 rf_118_0) ?_
  exact s_call [zR 1, zI (M 1 10), zR 119] [] f_74_21 rfl c_74_74 rfl rfl (Nat.le_of_ble_eq_true rfl) rfl
theorem q_74_24 {d : Nat} (v2 v3 : Int) (M : ZM) : Q d 74 24 [zR 118, zR 1, zI v2, zI v3, zU, zU, zU] [] M = Q d 74 30 [zR 118, zR 1, zI v2, zI v3, zI (-1), zI 0, zU] [] M := by
  refine Eq.trans (s_iconst f_74_24) ?_
  refine Eq.trans (s_istore f_74_25 rfl) ?_
  refine Eq.trans (s_iconst f_74_27) ?_
  refine Eq.trans (s_istore f_74_28 rfl) ?_
  rfl
theorem q_74_30 {d : Nat} (v2 v3 v4 v5 : Int) (z6 : ZV) (M : ZM) : Q d 74 30 [zR 118, zR 1, zI v2, zI v3, zI v4, zI v5, z6] [] M = if (M 1 8) ≤ v5 then (Rt (some (zI v4)) M) else (Cb (E d 149 [zI v3, zI v5] M) (fun v h => zrun (zevl d) 74 45 [zR 118, zR 1, zI v2, zI v3, zI v4, zI v5, z6] (v.toList ++ []) h)) := by
  refine Eq.trans (s_iload f_74_30 rfl) ?_
  refine Eq.trans (s_aloadn f_74_32 rfl) ?_
  refine Eq.trans (s_getI f_74_33 g_74_49 (by decide) kn_1) ?_
  refine Eq.trans (s_icmp (P := (M 1 8) ≤ v5) 104 f_74_36 (by decide) rfl) (ite_cg (fun h1 => ?_) (fun h1 => ?_))
  · refine Eq.trans (s_iload f_74_104 rfl) ?_
    exact s_iret f_74_106 t_74
  · refine Eq.trans (s_iloadn f_74_39 rfl) ?_
    refine Eq.trans (s_iload f_74_40 rfl) ?_
    exact s_call [zI v3, zI v5] [] f_74_42 rfl c_74_60 rfl rfl (Nat.le_of_ble_eq_true rfl) rfl
theorem q_74_45 {d : Nat} (v2 v3 v4 v5 s0 : Int) (z6 : ZV) (M : ZM) : Q d 74 45 [zR 118, zR 1, zI v2, zI v3, zI v4, zI v5, z6] [zI s0] M = if s0 = 0 then (Q d 74 63 [zR 118, zR 1, zI v2, zI v3, zI v4, zI v5, z6] [] M) else (if 0 ≤ v5 ∧ v5 < 12 then if (M 6 v5) ≠ (-1) then (Q d 74 63 [zR 118, zR 1, zI v2, zI v3, zI v4, zI v5, z6] [] M) else (if v4 = (-1) then (Q d 74 30 [zR 118, zR 1, zI v2, zI v3, zI v5, zI (zw (v5 + 1)), zI 1] [] M) else (if 0 ≤ v5 ∧ v5 < 12 then if 0 ≤ v4 ∧ v4 < 12 then if (M 119 v5) ≤ (M 119 v4) then (Q d 74 30 [zR 118, zR 1, zI v2, zI v3, zI v4, zI (zw (v5 + 1)), zI 1] [] M) else (Q d 74 30 [zR 118, zR 1, zI v2, zI v3, zI v5, zI (zw (v5 + 1)), zI 1] [] M) else none else none)) else none) := by
  refine Eq.trans (s_if (P := s0 = 0) 63 f_74_45 (by decide) rfl) (ite_cg (fun h1 => ?_) (fun h1 => ?_))
  · rfl
  · refine Eq.trans (s_aloadn f_74_48 rfl) ?_
    refine Eq.trans (s_getR f_74_49 g_74_31 (by decide) kn_1 rf_1_4) ?_
    refine Eq.trans (s_iload f_74_52 rfl) ?_
    refine Eq.trans (s_iald f_74_54 kn_6 ln_6) (gd_cg fun h2 => ?_)
    refine Eq.trans (s_iconst f_74_55) ?_
    refine Eq.trans (s_icmp (P := (M 6 v5) ≠ (-1)) 63 f_74_56 (by decide) rfl) (ite_cg (fun h3 => ?_) (fun h3 => ?_))
    · rfl
    · refine Eq.trans (s_iconst f_74_59) ?_
      refine Eq.trans (s_goto 64 f_74_60 (by decide)) ?_
      refine Eq.trans (s_istore f_74_64 rfl) ?_
      refine Eq.trans (s_iload f_74_66 rfl) ?_
      refine Eq.trans (s_if (P := 1 = 0) 98 f_74_68 (by decide) rfl) (Eq.trans (if_neg (by decide)) ?_)
      refine Eq.trans (s_iload f_74_71 rfl) ?_
      refine Eq.trans (s_iconst f_74_73) ?_
      refine Eq.trans (s_icmp (P := v4 = (-1)) 94 f_74_74 (by decide) rfl) (ite_cg (fun h4 => ?_) (fun h4 => ?_))
      · refine Eq.trans (s_iload f_74_94 rfl) ?_
        refine Eq.trans (s_istore f_74_96 rfl) ?_
        refine Eq.trans (s_iinc f_74_98 rfl rfl) ?_
        refine Eq.trans (s_goto 30 f_74_101 (by decide)) ?_
        rfl
      · refine Eq.trans (s_aloadn f_74_77 rfl) ?_
        refine Eq.trans (s_getR f_74_78 g_74_9 (by decide) kn_118 rf_118_0) ?_
        refine Eq.trans (s_iload f_74_81 rfl) ?_
        refine Eq.trans (s_iald f_74_83 kn_119 ln_119) (gd_cg fun h5 => ?_)
        refine Eq.trans (s_aloadn f_74_84 rfl) ?_
        refine Eq.trans (s_getR f_74_85 g_74_9 (by decide) kn_118 rf_118_0) ?_
        refine Eq.trans (s_iload f_74_88 rfl) ?_
        refine Eq.trans (s_iald f_74_90 kn_119 ln_119) (gd_cg fun h6 => ?_)
        refine Eq.trans (s_icmp (P := (M 119 v5) ≤ (M 119 v4)) 98 f_74_91 (by decide) rfl) (ite_cg (fun h7 => ?_) (fun h7 => ?_))
        · refine Eq.trans (s_iinc f_74_98 rfl rfl) ?_
          refine Eq.trans (s_goto 30 f_74_101 (by decide)) ?_
          rfl
        · refine Eq.trans (s_iload f_74_94 rfl) ?_
          refine Eq.trans (s_istore f_74_96 rfl) ?_
          refine Eq.trans (s_iinc f_74_98 rfl rfl) ?_
          refine Eq.trans (s_goto 30 f_74_101 (by decide)) ?_
          rfl
theorem q_74_63 {d : Nat} (v2 v3 v4 v5 : Int) (z6 : ZV) (M : ZM) : Q d 74 63 [zR 118, zR 1, zI v2, zI v3, zI v4, zI v5, z6] [] M = Q d 74 30 [zR 118, zR 1, zI v2, zI v3, zI v4, zI (zw (v5 + 1)), zI 0] [] M := by
  refine Eq.trans (s_iconst f_74_63) ?_
  refine Eq.trans (s_istore f_74_64 rfl) ?_
  refine Eq.trans (s_iload f_74_66 rfl) ?_
  refine Eq.trans (s_if (P := 0 = 0) 98 f_74_68 (by decide) rfl) (Eq.trans (if_pos (by decide)) ?_)
  refine Eq.trans (s_iinc f_74_98 rfl rfl) ?_
  refine Eq.trans (s_goto 30 f_74_101 (by decide)) ?_
  rfl
theorem en_74 {d : Nat} (v2 : Int) (M : ZM) : E (d + 1) 74 [zR 118, zR 1, zI v2] M = Q d 74 0 [zR 118, zR 1, zI v2, zU, zU, zU, zU] [] M := e_in (Nat.le_of_ble_eq_true rfl)
-- DungeonBuilder$Reach.spread(LDungeonBuilder$Dungeon;IIII)I
theorem q_75_0 {d : Nat} (v1 v2 v3 v4 : Int) (M : ZM) : Q d 75 0 [zR 1, zI v1, zI v2, zI v3, zI v4, zU, zU, zU, zU, zU] [] M = Q d 75 6 [zR 1, zI v1, zI v2, zI v3, zI v4, zI v1, zI 1, zU, zU, zU] [] M := by
  refine Eq.trans (s_iloadn f_75_0 rfl) ?_
  refine Eq.trans (s_istore f_75_1 rfl) ?_
  refine Eq.trans (s_iconst f_75_3) ?_
  refine Eq.trans (s_istore f_75_4 rfl) ?_
  rfl
theorem q_75_6 {d : Nat} (v1 v2 v3 v4 v5 v6 : Int) (z7 z8 z9 : ZV) (M : ZM) : Q d 75 6 [zR 1, zI v1, zI v2, zI v3, zI v4, zI v5, zI v6, z7, z8, z9] [] M = if (M 1 8) ≤ v6 then (Rt (some (zI v5)) M) else (Cb (E d 78 [zR 1, zI v5] M) (fun v h => zrun (zevl d) 75 21 [zR 1, zI v1, zI v2, zI v3, zI v4, zI v5, zI v6, z7, z8, z9] (v.toList ++ []) h)) := by
  refine Eq.trans (s_iload f_75_6 rfl) ?_
  refine Eq.trans (s_aloadn f_75_8 rfl) ?_
  refine Eq.trans (s_getI f_75_9 g_75_9 (by decide) kn_1) ?_
  refine Eq.trans (s_icmp (P := (M 1 8) ≤ v6) 107 f_75_12 (by decide) rfl) (ite_cg (fun h1 => ?_) (fun h1 => ?_))
  · refine Eq.trans (s_iload f_75_107 rfl) ?_
    exact s_iret f_75_109 t_75
  · refine Eq.trans (s_aloadn f_75_15 rfl) ?_
    refine Eq.trans (s_iload f_75_16 rfl) ?_
    exact s_call [zR 1, zI v5] [] f_75_18 rfl c_75_15 rfl rfl (Nat.le_of_ble_eq_true rfl) rfl
theorem q_75_21 {d : Nat} (v1 v2 v3 v4 v5 v6 s0 : Int) (z7 z8 z9 : ZV) (M : ZM) : Q d 75 21 [zR 1, zI v1, zI v2, zI v3, zI v4, zI v5, zI v6, z7, z8, z9] [zI s0] M = Q d 75 32 [zR 1, zI v1, zI v2, zI v3, zI v4, zI v5, zI v6, zI (zor (zand s0 (zxor v2 (-1))) v3), zI 0, z9] [] M := by
  refine Eq.trans (s_iloadn f_75_21 rfl) ?_
  refine Eq.trans (s_iconst f_75_22) ?_
  refine Eq.trans (s_ixor f_75_23) ?_
  refine Eq.trans (s_iand f_75_24) ?_
  refine Eq.trans (s_iloadn f_75_25 rfl) ?_
  refine Eq.trans (s_ior f_75_26) ?_
  refine Eq.trans (s_istore f_75_27 rfl) ?_
  refine Eq.trans (s_iconst f_75_29) ?_
  refine Eq.trans (s_istore f_75_30 rfl) ?_
  rfl
theorem q_75_32 {d : Nat} (v1 v2 v3 v4 v5 v6 v7 v8 : Int) (z9 : ZV) (M : ZM) : Q d 75 32 [zR 1, zI v1, zI v2, zI v3, zI v4, zI v5, zI v6, zI v7, zI v8, z9] [] M = if (M 1 9) ≤ v8 then (Q d 75 6 [zR 1, zI v1, zI v2, zI v3, zI v4, zI v5, zI (zw (v6 + 1)), zI v7, zI v8, z9] [] M) else (if 0 ≤ v8 ∧ v8 < 20 then if 0 ≤ v8 ∧ v8 < 20 then if v8 = v4 then (Q d 75 32 [zR 1, zI v1, zI v2, zI v3, zI v4, zI v5, zI v6, zI v7, zI (zw (v8 + 1)), zI (zor (zshl 1 (M 7 v8)) (zshl 1 (M 8 v8)))] [] M) else (if (zand (zor (zshl 1 (M 7 v8)) (zshl 1 (M 8 v8))) v5) = 0 then (Q d 75 32 [zR 1, zI v1, zI v2, zI v3, zI v4, zI v5, zI v6, zI v7, zI (zw (v8 + 1)), zI (zor (zshl 1 (M 7 v8)) (zshl 1 (M 8 v8)))] [] M) else (Cb (E d 35 [zR 1, zI v8, zI v7] M) (fun v h => zrun (zevl d) 75 85 [zR 1, zI v1, zI v2, zI v3, zI v4, zI v5, zI v6, zI v7, zI v8, zI (zor (zshl 1 (M 7 v8)) (zshl 1 (M 8 v8)))] (v.toList ++ []) h))) else none else none) := by
  refine Eq.trans (s_iload f_75_32 rfl) ?_
  refine Eq.trans (s_aloadn f_75_34 rfl) ?_
  refine Eq.trans (s_getI f_75_35 g_75_21 (by decide) kn_1) ?_
  refine Eq.trans (s_icmp (P := (M 1 9) ≤ v8) 101 f_75_38 (by decide) rfl) (ite_cg (fun h1 => ?_) (fun h1 => ?_))
  · refine Eq.trans (s_iinc f_75_101 rfl rfl) ?_
    refine Eq.trans (s_goto 6 f_75_104 (by decide)) ?_
    rfl
  · refine Eq.trans (s_iconst f_75_41) ?_
    refine Eq.trans (s_aloadn f_75_42 rfl) ?_
    refine Eq.trans (s_getR f_75_43 g_75_24 (by decide) kn_1 rf_1_5) ?_
    refine Eq.trans (s_iload f_75_46 rfl) ?_
    refine Eq.trans (s_iald f_75_48 kn_7 ln_7) (gd_cg fun h2 => ?_)
    refine Eq.trans (s_ishl f_75_49) ?_
    refine Eq.trans (s_iconst f_75_50) ?_
    refine Eq.trans (s_aloadn f_75_51 rfl) ?_
    refine Eq.trans (s_getR f_75_52 g_75_28 (by decide) kn_1 rf_1_6) ?_
    refine Eq.trans (s_iload f_75_55 rfl) ?_
    refine Eq.trans (s_iald f_75_57 kn_8 ln_8) (gd_cg fun h3 => ?_)
    refine Eq.trans (s_ishl f_75_58) ?_
    refine Eq.trans (s_ior f_75_59) ?_
    refine Eq.trans (s_istore f_75_60 rfl) ?_
    refine Eq.trans (s_iload f_75_62 rfl) ?_
    refine Eq.trans (s_iload f_75_64 rfl) ?_
    refine Eq.trans (s_icmp (P := v8 = v4) 95 f_75_66 (by decide) rfl) (ite_cg (fun h4 => ?_) (fun h4 => ?_))
    · refine Eq.trans (s_iinc f_75_95 rfl rfl) ?_
      refine Eq.trans (s_goto 32 f_75_98 (by decide)) ?_
      rfl
    · refine Eq.trans (s_iload f_75_69 rfl) ?_
      refine Eq.trans (s_iload f_75_71 rfl) ?_
      refine Eq.trans (s_iand f_75_73) ?_
      refine Eq.trans (s_if (P := (zand (zor (zshl 1 (M 7 v8)) (zshl 1 (M 8 v8))) v5) = 0) 95 f_75_74 (by decide) rfl) (ite_cg (fun h5 => ?_) (fun h5 => ?_))
      · refine Eq.trans (s_iinc f_75_95 rfl rfl) ?_
        refine Eq.trans (s_goto 32 f_75_98 (by decide)) ?_
        rfl
      · refine Eq.trans (s_aloadn f_75_77 rfl) ?_
        refine Eq.trans (s_iload f_75_78 rfl) ?_
        refine Eq.trans (s_iload f_75_80 rfl) ?_
        exact s_call [zR 1, zI v8, zI v7] [] f_75_82 rfl c_75_31 rfl rfl (Nat.le_of_ble_eq_true rfl) (by show (zkn SH 1 == zown 35) = true; rw [show zkn SH 1 = 1 from kn_1]; rfl)
theorem q_75_85 {d : Nat} (v1 v2 v3 v4 v5 v6 v7 v8 v9 s0 : Int) (M : ZM) : Q d 75 85 [zR 1, zI v1, zI v2, zI v3, zI v4, zI v5, zI v6, zI v7, zI v8, zI v9] [zI s0] M = if s0 = 0 then (Q d 75 32 [zR 1, zI v1, zI v2, zI v3, zI v4, zI v5, zI v6, zI v7, zI (zw (v8 + 1)), zI v9] [] M) else (Q d 75 32 [zR 1, zI v1, zI v2, zI v3, zI v4, zI (zor v5 v9), zI v6, zI v7, zI (zw (v8 + 1)), zI v9] [] M) := by
  refine Eq.trans (s_if (P := s0 = 0) 95 f_75_85 (by decide) rfl) (ite_cg (fun h1 => ?_) (fun h1 => ?_))
  · refine Eq.trans (s_iinc f_75_95 rfl rfl) ?_
    refine Eq.trans (s_goto 32 f_75_98 (by decide)) ?_
    rfl
  · refine Eq.trans (s_iload f_75_88 rfl) ?_
    refine Eq.trans (s_iload f_75_90 rfl) ?_
    refine Eq.trans (s_ior f_75_92) ?_
    refine Eq.trans (s_istore f_75_93 rfl) ?_
    refine Eq.trans (s_iinc f_75_95 rfl rfl) ?_
    refine Eq.trans (s_goto 32 f_75_98 (by decide)) ?_
    rfl
theorem en_75 {d : Nat} (v1 v2 v3 v4 : Int) (M : ZM) : E (d + 1) 75 [zR 1, zI v1, zI v2, zI v3, zI v4] M = Q d 75 0 [zR 1, zI v1, zI v2, zI v3, zI v4, zU, zU, zU, zU, zU] [] M := e_in (Nat.le_of_ble_eq_true rfl)
-- DungeonBuilder$Reach.visitable(LDungeonBuilder$Dungeon;II)I
theorem q_76_0 {d : Nat} (v1 v2 : Int) (M : ZM) : Q d 76 0 [zR 1, zI v1, zI v2] [] M = Cb (E d 77 [zR 1] M) (fun v h => zrun (zevl d) 76 5 [zR 1, zI v1, zI v2] (v.toList ++ [zR 1]) h) := by
  refine Eq.trans (s_aloadn f_76_0 rfl) ?_
  refine Eq.trans (s_aloadn f_76_1 rfl) ?_
  exact s_call [zR 1] [zR 1] f_76_2 rfl c_76_35 rfl rfl (Nat.le_of_ble_eq_true rfl) rfl
theorem q_76_5 {d : Nat} (v1 v2 s1 : Int) (M : ZM) : Q d 76 5 [zR 1, zI v1, zI v2] [zI s1, zR 1] M = Cb (E d 75 [zR 1, zI s1, zI v1, zI v2, zI (-1)] M) (fun v h => zrun (zevl d) 76 11 [zR 1, zI v1, zI v2] (v.toList ++ []) h) := by
  refine Eq.trans (s_iloadn f_76_5 rfl) ?_
  refine Eq.trans (s_iloadn f_76_6 rfl) ?_
  refine Eq.trans (s_iconst f_76_7) ?_
  exact s_call [zR 1, zI s1, zI v1, zI v2, zI (-1)] [] f_76_8 rfl c_76_39 rfl rfl (Nat.le_of_ble_eq_true rfl) rfl
theorem q_76_11 {d : Nat} (v1 v2 s0 : Int) (M : ZM) : Q d 76 11 [zR 1, zI v1, zI v2] [zI s0] M = Rt (some (zI s0)) M := by
  exact s_iret f_76_11 t_76
theorem en_76 {d : Nat} (v1 v2 : Int) (M : ZM) : E (d + 1) 76 [zR 1, zI v1, zI v2] M = Q d 76 0 [zR 1, zI v1, zI v2] [] M := e_in (Nat.le_of_ble_eq_true rfl)
-- DungeonBuilder$Reach.entranceSet(LDungeonBuilder$Dungeon;)I
theorem q_77_0 {d : Nat} (M : ZM) : Q d 77 0 [zR 1] [] M = if (M 1 8) ≠ 0 then (Rt (some (zI (zshl 1 (M 1 10)))) M) else (Rt (some (zI 0)) M) := by
  refine Eq.trans (s_aloadn f_77_0 rfl) ?_
  refine Eq.trans (s_getI f_77_1 g_77_9 (by decide) kn_1) ?_
  refine Eq.trans (s_if (P := (M 1 8) ≠ 0) 11 f_77_4 (by decide) rfl) (ite_cg (fun h1 => ?_) (fun h1 => ?_))
  · refine Eq.trans (s_iconst f_77_11) ?_
    refine Eq.trans (s_aloadn f_77_12 rfl) ?_
    refine Eq.trans (s_getI f_77_13 g_77_43 (by decide) kn_1) ?_
    refine Eq.trans (s_ishl f_77_16) ?_
    exact s_iret f_77_17 t_77
  · refine Eq.trans (s_iconst f_77_7) ?_
    refine Eq.trans (s_goto 17 f_77_8 (by decide)) ?_
    exact s_iret f_77_17 t_77
theorem en_77 {d : Nat} (M : ZM) : E (d + 1) 77 [zR 1] M = Q d 77 0 [zR 1] [] M := e_in (Nat.le_of_ble_eq_true rfl)
-- DungeonBuilder$Reach.keysIn(LDungeonBuilder$Dungeon;I)I
theorem q_78_0 {d : Nat} (v1 : Int) (M : ZM) : Q d 78 0 [zR 1, zI v1, zU, zU] [] M = Q d 78 4 [zR 1, zI v1, zI 0, zI 0] [] M := by
  refine Eq.trans (s_iconst f_78_0) ?_
  refine Eq.trans (s_istoren f_78_1 rfl) ?_
  refine Eq.trans (s_iconst f_78_2) ?_
  refine Eq.trans (s_istoren f_78_3 rfl) ?_
  rfl
theorem q_78_4 {d : Nat} (v1 v2 v3 : Int) (M : ZM) : Q d 78 4 [zR 1, zI v1, zI v2, zI v3] [] M = if (M 1 8) ≤ v3 then (Rt (some (zI v2)) M) else (Cb (E d 149 [zI v1, zI v3] M) (fun v h => zrun (zevl d) 78 17 [zR 1, zI v1, zI v2, zI v3] (v.toList ++ []) h)) := by
  refine Eq.trans (s_iloadn f_78_4 rfl) ?_
  refine Eq.trans (s_aloadn f_78_5 rfl) ?_
  refine Eq.trans (s_getI f_78_6 g_78_9 (by decide) kn_1) ?_
  refine Eq.trans (s_icmp (P := (M 1 8) ≤ v3) 34 f_78_9 (by decide) rfl) (ite_cg (fun h1 => ?_) (fun h1 => ?_))
  · refine Eq.trans (s_iloadn f_78_34 rfl) ?_
    exact s_iret f_78_35 t_78
  · refine Eq.trans (s_iloadn f_78_12 rfl) ?_
    refine Eq.trans (s_iloadn f_78_13 rfl) ?_
    exact s_call [zI v1, zI v3] [] f_78_14 rfl c_78_46 rfl rfl (Nat.le_of_ble_eq_true rfl) rfl
theorem q_78_17 {d : Nat} (v1 v2 v3 s0 : Int) (M : ZM) : Q d 78 17 [zR 1, zI v1, zI v2, zI v3] [zI s0] M = if s0 = 0 then (Q d 78 4 [zR 1, zI v1, zI v2, zI (zw (v3 + 1))] [] M) else (Cb (E d 36 [zR 1, zI v3] M) (fun v h => zrun (zevl d) 78 26 [zR 1, zI v1, zI v2, zI v3] (v.toList ++ [zI v2]) h)) := by
  refine Eq.trans (s_if (P := s0 = 0) 28 f_78_17 (by decide) rfl) (ite_cg (fun h1 => ?_) (fun h1 => ?_))
  · refine Eq.trans (s_iinc f_78_28 rfl rfl) ?_
    refine Eq.trans (s_goto 4 f_78_31 (by decide)) ?_
    rfl
  · refine Eq.trans (s_iloadn f_78_20 rfl) ?_
    refine Eq.trans (s_aloadn f_78_21 rfl) ?_
    refine Eq.trans (s_iloadn f_78_22 rfl) ?_
    exact s_call [zR 1, zI v3] [zI v2] f_78_23 rfl c_78_49 rfl rfl (Nat.le_of_ble_eq_true rfl) (by show (zkn SH 1 == zown 36) = true; rw [show zkn SH 1 = 1 from kn_1]; rfl)
theorem q_78_26 {d : Nat} (v1 v2 v3 s0 s1 : Int) (M : ZM) : Q d 78 26 [zR 1, zI v1, zI v2, zI v3] [zI s1, zI s0] M = Q d 78 4 [zR 1, zI v1, zI (zor s0 s1), zI (zw (v3 + 1))] [] M := by
  refine Eq.trans (s_ior f_78_26) ?_
  refine Eq.trans (s_istoren f_78_27 rfl) ?_
  refine Eq.trans (s_iinc f_78_28 rfl rfl) ?_
  refine Eq.trans (s_goto 4 f_78_31 (by decide)) ?_
  rfl
theorem en_78 {d : Nat} (v1 : Int) (M : ZM) : E (d + 1) 78 [zR 1, zI v1] M = Q d 78 0 [zR 1, zI v1, zU, zU] [] M := e_in (Nat.le_of_ble_eq_true rfl)
-- DungeonBuilder$Reach.farSide(LDungeonBuilder$Dungeon;I)I
theorem q_79_0 {d : Nat} (v1 : Int) (M : ZM) : Q d 79 0 [zR 1, zI v1, zU, zU] [] M = Cb (E d 77 [zR 1] M) (fun v h => zrun (zevl d) 79 4 [zR 1, zI v1, zU, zU] (v.toList ++ []) h) := by
  refine Eq.trans (s_aloadn f_79_0 rfl) ?_
  exact s_call [zR 1] [] f_79_1 rfl c_79_35 rfl rfl (Nat.le_of_ble_eq_true rfl) rfl
theorem q_79_4 {d : Nat} (v1 s0 : Int) (M : ZM) : Q d 79 4 [zR 1, zI v1, zU, zU] [zI s0] M = Cb (E d 75 [zR 1, zI s0, zI 0, zI 63, zI (-1)] M) (fun v h => zrun (zevl d) 79 14 [zR 1, zI v1, zI s0, zU] (v.toList ++ []) h) := by
  refine Eq.trans (s_istoren f_79_4 rfl) ?_
  refine Eq.trans (s_aloadn f_79_5 rfl) ?_
  refine Eq.trans (s_iloadn f_79_6 rfl) ?_
  refine Eq.trans (s_iconst f_79_7) ?_
  refine Eq.trans (s_bipush f_79_8) ?_
  refine Eq.trans (s_iconst f_79_10) ?_
  exact s_call [zR 1, zI s0, zI 0, zI 63, zI (-1)] [] f_79_11 rfl c_79_39 rfl rfl (Nat.le_of_ble_eq_true rfl) rfl
theorem q_79_14 {d : Nat} (v1 v2 s0 : Int) (M : ZM) : Q d 79 14 [zR 1, zI v1, zI v2, zU] [zI s0] M = Cb (E d 75 [zR 1, zI v2, zI 0, zI 63, zI v1] M) (fun v h => zrun (zevl d) 79 25 [zR 1, zI v1, zI v2, zI s0] (v.toList ++ [zI s0]) h) := by
  refine Eq.trans (s_istoren f_79_14 rfl) ?_
  refine Eq.trans (s_iloadn f_79_15 rfl) ?_
  refine Eq.trans (s_aloadn f_79_16 rfl) ?_
  refine Eq.trans (s_iloadn f_79_17 rfl) ?_
  refine Eq.trans (s_iconst f_79_18) ?_
  refine Eq.trans (s_bipush f_79_19) ?_
  refine Eq.trans (s_iloadn f_79_21 rfl) ?_
  exact s_call [zR 1, zI v2, zI 0, zI 63, zI v1] [zI s0] f_79_22 rfl c_79_39 rfl rfl (Nat.le_of_ble_eq_true rfl) rfl
theorem q_79_25 {d : Nat} (v1 v2 v3 s0 s1 : Int) (M : ZM) : Q d 79 25 [zR 1, zI v1, zI v2, zI v3] [zI s1, zI s0] M = Rt (some (zI (zand s0 (zxor s1 (-1))))) M := by
  refine Eq.trans (s_iconst f_79_25) ?_
  refine Eq.trans (s_ixor f_79_26) ?_
  refine Eq.trans (s_iand f_79_27) ?_
  exact s_iret f_79_28 t_79
theorem en_79 {d : Nat} (v1 : Int) (M : ZM) : E (d + 1) 79 [zR 1, zI v1] M = Q d 79 0 [zR 1, zI v1, zU, zU] [] M := e_in (Nat.le_of_ble_eq_true rfl)
-- DungeonBuilder$Reach.groups(LDungeonBuilder$Dungeon;I)I
theorem q_80_0 {d : Nat} (v1 : Int) (M : ZM) : Q d 80 0 [zR 1, zI v1, zU, zU, zU] [] M = Q d 80 7 [zR 1, zI v1, zI 0, zI 0, zI 0] [] M := by
  refine Eq.trans (s_iconst f_80_0) ?_
  refine Eq.trans (s_istoren f_80_1 rfl) ?_
  refine Eq.trans (s_iconst f_80_2) ?_
  refine Eq.trans (s_istoren f_80_3 rfl) ?_
  refine Eq.trans (s_iconst f_80_4) ?_
  refine Eq.trans (s_istore f_80_5 rfl) ?_
  rfl
theorem q_80_7 {d : Nat} (v1 v2 v3 v4 : Int) (M : ZM) : Q d 80 7 [zR 1, zI v1, zI v2, zI v3, zI v4] [] M = if (M 1 8) ≤ v4 then (Rt (some (zI v2)) M) else (Cb (E d 149 [zI v3, zI v4] M) (fun v h => zrun (zevl d) 80 22 [zR 1, zI v1, zI v2, zI v3, zI v4] (v.toList ++ []) h)) := by
  refine Eq.trans (s_iload f_80_7 rfl) ?_
  refine Eq.trans (s_aloadn f_80_9 rfl) ?_
  refine Eq.trans (s_getI f_80_10 g_80_9 (by decide) kn_1) ?_
  refine Eq.trans (s_icmp (P := (M 1 8) ≤ v4) 49 f_80_13 (by decide) rfl) (ite_cg (fun h1 => ?_) (fun h1 => ?_))
  · refine Eq.trans (s_iloadn f_80_49 rfl) ?_
    exact s_iret f_80_50 t_80
  · refine Eq.trans (s_iloadn f_80_16 rfl) ?_
    refine Eq.trans (s_iload f_80_17 rfl) ?_
    exact s_call [zI v3, zI v4] [] f_80_19 rfl c_80_46 rfl rfl (Nat.le_of_ble_eq_true rfl) rfl
theorem q_80_22 {d : Nat} (v1 v2 v3 v4 s0 : Int) (M : ZM) : Q d 80 22 [zR 1, zI v1, zI v2, zI v3, zI v4] [zI s0] M = if s0 ≠ 0 then (Q d 80 7 [zR 1, zI v1, zI v2, zI v3, zI (zw (v4 + 1))] [] M) else (Cb (E d 75 [zR 1, zI (zshl 1 v4), zI 0, zI 63, zI v1] M) (fun v h => zrun (zevl d) 80 38 [zR 1, zI v1, zI v2, zI v3, zI v4] (v.toList ++ [zI v3]) h)) := by
  refine Eq.trans (s_if (P := s0 ≠ 0) 43 f_80_22 (by decide) rfl) (ite_cg (fun h1 => ?_) (fun h1 => ?_))
  · refine Eq.trans (s_iinc f_80_43 rfl rfl) ?_
    refine Eq.trans (s_goto 7 f_80_46 (by decide)) ?_
    rfl
  · refine Eq.trans (s_iloadn f_80_25 rfl) ?_
    refine Eq.trans (s_aloadn f_80_26 rfl) ?_
    refine Eq.trans (s_iconst f_80_27) ?_
    refine Eq.trans (s_iload f_80_28 rfl) ?_
    refine Eq.trans (s_ishl f_80_30) ?_
    refine Eq.trans (s_iconst f_80_31) ?_
    refine Eq.trans (s_bipush f_80_32) ?_
    refine Eq.trans (s_iloadn f_80_34 rfl) ?_
    exact s_call [zR 1, zI (zshl 1 v4), zI 0, zI 63, zI v1] [zI v3] f_80_35 rfl c_80_39 rfl rfl (Nat.le_of_ble_eq_true rfl) rfl
theorem q_80_38 {d : Nat} (v1 v2 v3 v4 s0 s1 : Int) (M : ZM) : Q d 80 38 [zR 1, zI v1, zI v2, zI v3, zI v4] [zI s1, zI s0] M = Q d 80 7 [zR 1, zI v1, zI (zw (v2 + 1)), zI (zor s0 s1), zI (zw (v4 + 1))] [] M := by
  refine Eq.trans (s_ior f_80_38) ?_
  refine Eq.trans (s_istoren f_80_39 rfl) ?_
  refine Eq.trans (s_iinc f_80_40 rfl rfl) ?_
  refine Eq.trans (s_iinc f_80_43 rfl rfl) ?_
  refine Eq.trans (s_goto 7 f_80_46 (by decide)) ?_
  rfl
theorem en_80 {d : Nat} (v1 : Int) (M : ZM) : E (d + 1) 80 [zR 1, zI v1] M = Q d 80 0 [zR 1, zI v1, zU, zU, zU] [] M := e_in (Nat.le_of_ble_eq_true rfl)
-- DungeonBuilder$Reach.bridges(LDungeonBuilder$Dungeon;)I
theorem q_81_0 {d : Nat} (M : ZM) : Q d 81 0 [zR 1, zU, zU, zU] [] M = Cb (E d 80 [zR 1, zI (-1)] M) (fun v h => zrun (zevl d) 81 5 [zR 1, zU, zU, zU] (v.toList ++ []) h) := by
  refine Eq.trans (s_aloadn f_81_0 rfl) ?_
  refine Eq.trans (s_iconst f_81_1) ?_
  exact s_call [zR 1, zI (-1)] [] f_81_2 rfl c_81_53 rfl rfl (Nat.le_of_ble_eq_true rfl) rfl
theorem q_81_5 {d : Nat} (s0 : Int) (M : ZM) : Q d 81 5 [zR 1, zU, zU, zU] [zI s0] M = Q d 81 10 [zR 1, zI s0, zI 0, zI 0] [] M := by
  refine Eq.trans (s_istoren f_81_5 rfl) ?_
  refine Eq.trans (s_iconst f_81_6) ?_
  refine Eq.trans (s_istoren f_81_7 rfl) ?_
  refine Eq.trans (s_iconst f_81_8) ?_
  refine Eq.trans (s_istoren f_81_9 rfl) ?_
  rfl
theorem q_81_10 {d : Nat} (v1 v2 v3 : Int) (M : ZM) : Q d 81 10 [zR 1, zI v1, zI v2, zI v3] [] M = if (M 1 9) ≤ v3 then (Rt (some (zI v2)) M) else (Cb (E d 80 [zR 1, zI v3] M) (fun v h => zrun (zevl d) 81 23 [zR 1, zI v1, zI v2, zI v3] (v.toList ++ []) h)) := by
  refine Eq.trans (s_iloadn f_81_10 rfl) ?_
  refine Eq.trans (s_aloadn f_81_11 rfl) ?_
  refine Eq.trans (s_getI f_81_12 g_81_21 (by decide) kn_1) ?_
  refine Eq.trans (s_icmp (P := (M 1 9) ≤ v3) 36 f_81_15 (by decide) rfl) (ite_cg (fun h1 => ?_) (fun h1 => ?_))
  · refine Eq.trans (s_iloadn f_81_36 rfl) ?_
    exact s_iret f_81_37 t_81
  · refine Eq.trans (s_aloadn f_81_18 rfl) ?_
    refine Eq.trans (s_iloadn f_81_19 rfl) ?_
    exact s_call [zR 1, zI v3] [] f_81_20 rfl c_81_53 rfl rfl (Nat.le_of_ble_eq_true rfl) rfl
theorem q_81_23 {d : Nat} (v1 v2 v3 s0 : Int) (M : ZM) : Q d 81 23 [zR 1, zI v1, zI v2, zI v3] [zI s0] M = if s0 ≤ v1 then (Q d 81 10 [zR 1, zI v1, zI v2, zI (zw (v3 + 1))] [] M) else (Q d 81 10 [zR 1, zI v1, zI (zw (v2 + 1)), zI (zw (v3 + 1))] [] M) := by
  refine Eq.trans (s_iloadn f_81_23 rfl) ?_
  refine Eq.trans (s_icmp (P := s0 ≤ v1) 30 f_81_24 (by decide) rfl) (ite_cg (fun h1 => ?_) (fun h1 => ?_))
  · refine Eq.trans (s_iinc f_81_30 rfl rfl) ?_
    refine Eq.trans (s_goto 10 f_81_33 (by decide)) ?_
    rfl
  · refine Eq.trans (s_iinc f_81_27 rfl rfl) ?_
    refine Eq.trans (s_iinc f_81_30 rfl rfl) ?_
    refine Eq.trans (s_goto 10 f_81_33 (by decide)) ?_
    rfl
theorem en_81 {d : Nat} (M : ZM) : E (d + 1) 81 [zR 1] M = Q d 81 0 [zR 1, zU, zU, zU] [] M := e_in (Nat.le_of_ble_eq_true rfl)
-- DungeonBuilder$Reach.measure(LDungeonBuilder$Dungeon;I[I)V
theorem q_82_0 {d : Nat} {r : Nat} (hk : zkn SH r = 20) (hw : zln SH r = 12) (v1 : Int) (M : ZM) : Q d 82 0 [zR 1, zI v1, zR r, zU, zU] [] M = Cb (E d 254 [zR r, zI (-1)] M) (fun v h => zrun (zevl d) 82 5 [zR 1, zI v1, zR r, zU, zU] (v.toList ++ []) h) := by
  refine Eq.trans (s_aloadn f_82_0 rfl) ?_
  refine Eq.trans (s_iconst f_82_1) ?_
  exact s_call [zR r, zI (-1)] [] f_82_2 rfl c_82_56 rfl rfl (Nat.le_of_ble_eq_true rfl) rfl
theorem q_82_5 {d : Nat} {r : Nat} (hk : zkn SH r = 20) (hw : zln SH r = 12) (v1 : Int) (M : ZM) : Q d 82 5 [zR 1, zI v1, zR r, zU, zU] [] M = Cb (E d 15 [zR 1, zI v1] M) (fun v h => zrun (zevl d) 82 10 [zR 1, zI v1, zR r, zU, zU] (v.toList ++ []) h) := by
  refine Eq.trans (s_aloadn f_82_5 rfl) ?_
  refine Eq.trans (s_iloadn f_82_6 rfl) ?_
  exact s_call [zR 1, zI v1] [] f_82_7 rfl c_82_62 rfl rfl (Nat.le_of_ble_eq_true rfl) (by show (zkn SH 1 == zown 15) = true; rw [show zkn SH 1 = 1 from kn_1]; rfl)
theorem q_82_10 {d : Nat} {r : Nat} (hk : zkn SH r = 20) (hw : zln SH r = 12) (v1 s0 : Int) (M : ZM) : Q d 82 10 [zR 1, zI v1, zR r, zU, zU] [zI s0] M = if s0 ≠ 0 then (if 0 ≤ v1 ∧ v1 < 12 then Q d 82 20 [zR 1, zI v1, zR r, zI 0, zU] [] (zwr M r v1 0) else none) else (Rt none M) := by
  refine Eq.trans (s_if (P := s0 ≠ 0) 14 f_82_10 (by decide) rfl) (ite_cg (fun h1 => ?_) (fun h1 => ?_))
  · refine Eq.trans (s_aloadn f_82_14 rfl) ?_
    refine Eq.trans (s_iloadn f_82_15 rfl) ?_
    refine Eq.trans (s_iconst f_82_16) ?_
    refine Eq.trans (s_iast f_82_17 hk hw) (gd_cg fun h2 => ?_)
    refine Eq.trans (s_iconst f_82_18) ?_
    refine Eq.trans (s_istoren f_82_19 rfl) ?_
    rfl
  · exact s_vret f_82_13 t_82
theorem q_82_20 {d : Nat} {r : Nat} (hk : zkn SH r = 20) (hw : zln SH r = 12) (v1 v3 : Int) (z4 : ZV) (M : ZM) : Q d 82 20 [zR 1, zI v1, zR r, zI v3, z4] [] M = if (M 1 8) ≤ v3 then (Rt none M) else (Q d 82 31 [zR 1, zI v1, zR r, zI v3, zI 0] [] M) := by
  refine Eq.trans (s_iloadn f_82_20 rfl) ?_
  refine Eq.trans (s_aloadn f_82_21 rfl) ?_
  refine Eq.trans (s_getI f_82_22 g_82_9 (by decide) kn_1) ?_
  refine Eq.trans (s_icmp (P := (M 1 8) ≤ v3) 90 f_82_25 (by decide) rfl) (ite_cg (fun h1 => ?_) (fun h1 => ?_))
  · exact s_vret f_82_90 t_82
  · refine Eq.trans (s_iconst f_82_28) ?_
    refine Eq.trans (s_istore f_82_29 rfl) ?_
    rfl
theorem q_82_31 {d : Nat} {r : Nat} (hk : zkn SH r = 20) (hw : zln SH r = 12) (v1 v3 v4 : Int) (M : ZM) : Q d 82 31 [zR 1, zI v1, zR r, zI v3, zI v4] [] M = if (M 1 9) ≤ v4 then (Q d 82 20 [zR 1, zI v1, zR r, zI (zw (v3 + 1)), zI v4] [] M) else (if 0 ≤ v4 ∧ v4 < 20 then if 0 ≤ v4 ∧ v4 < 20 then Cb (E d 83 [zR r, zI (M 7 v4), zI (M 8 v4), zI v3] M) (fun v h => zrun (zevl d) 82 59 [zR 1, zI v1, zR r, zI v3, zI v4] (v.toList ++ []) h) else none else none) := by
  refine Eq.trans (s_iload f_82_31 rfl) ?_
  refine Eq.trans (s_aloadn f_82_33 rfl) ?_
  refine Eq.trans (s_getI f_82_34 g_82_21 (by decide) kn_1) ?_
  refine Eq.trans (s_icmp (P := (M 1 9) ≤ v4) 84 f_82_37 (by decide) rfl) (ite_cg (fun h1 => ?_) (fun h1 => ?_))
  · refine Eq.trans (s_iinc f_82_84 rfl rfl) ?_
    refine Eq.trans (s_goto 20 f_82_87 (by decide)) ?_
    rfl
  · refine Eq.trans (s_aloadn f_82_40 rfl) ?_
    refine Eq.trans (s_aloadn f_82_41 rfl) ?_
    refine Eq.trans (s_getR f_82_42 g_82_24 (by decide) kn_1 rf_1_5) ?_
    refine Eq.trans (s_iload f_82_45 rfl) ?_
    refine Eq.trans (s_iald f_82_47 kn_7 ln_7) (gd_cg fun h2 => ?_)
    refine Eq.trans (s_aloadn f_82_48 rfl) ?_
    refine Eq.trans (s_getR f_82_49 g_82_28 (by decide) kn_1 rf_1_6) ?_
    refine Eq.trans (s_iload f_82_52 rfl) ?_
    refine Eq.trans (s_iald f_82_54 kn_8 ln_8) (gd_cg fun h3 => ?_)
    refine Eq.trans (s_iloadn f_82_55 rfl) ?_
    exact s_call [zR r, zI (M 7 v4), zI (M 8 v4), zI v3] [] f_82_56 rfl c_82_66 rfl rfl (Nat.le_of_ble_eq_true rfl) rfl
theorem q_82_59 {d : Nat} {r : Nat} (hk : zkn SH r = 20) (hw : zln SH r = 12) (v1 v3 v4 : Int) (M : ZM) : Q d 82 59 [zR 1, zI v1, zR r, zI v3, zI v4] [] M = if 0 ≤ v4 ∧ v4 < 20 then if 0 ≤ v4 ∧ v4 < 20 then Cb (E d 83 [zR r, zI (M 8 v4), zI (M 7 v4), zI v3] M) (fun v h => zrun (zevl d) 82 78 [zR 1, zI v1, zR r, zI v3, zI v4] (v.toList ++ []) h) else none else none := by
  refine Eq.trans (s_aloadn f_82_59 rfl) ?_
  refine Eq.trans (s_aloadn f_82_60 rfl) ?_
  refine Eq.trans (s_getR f_82_61 g_82_28 (by decide) kn_1 rf_1_6) ?_
  refine Eq.trans (s_iload f_82_64 rfl) ?_
  refine Eq.trans (s_iald f_82_66 kn_8 ln_8) (gd_cg fun h1 => ?_)
  refine Eq.trans (s_aloadn f_82_67 rfl) ?_
  refine Eq.trans (s_getR f_82_68 g_82_24 (by decide) kn_1 rf_1_5) ?_
  refine Eq.trans (s_iload f_82_71 rfl) ?_
  refine Eq.trans (s_iald f_82_73 kn_7 ln_7) (gd_cg fun h2 => ?_)
  refine Eq.trans (s_iloadn f_82_74 rfl) ?_
  exact s_call [zR r, zI (M 8 v4), zI (M 7 v4), zI v3] [] f_82_75 rfl c_82_66 rfl rfl (Nat.le_of_ble_eq_true rfl) rfl
theorem q_82_78 {d : Nat} {r : Nat} (hk : zkn SH r = 20) (hw : zln SH r = 12) (v1 v3 v4 : Int) (M : ZM) : Q d 82 78 [zR 1, zI v1, zR r, zI v3, zI v4] [] M = Q d 82 31 [zR 1, zI v1, zR r, zI v3, zI (zw (v4 + 1))] [] M := by
  refine Eq.trans (s_iinc f_82_78 rfl rfl) ?_
  refine Eq.trans (s_goto 31 f_82_81 (by decide)) ?_
  rfl
theorem en_82 {d : Nat} {r : Nat} (v1 : Int) (M : ZM) : E (d + 1) 82 [zR 1, zI v1, zR r] M = Q d 82 0 [zR 1, zI v1, zR r, zU, zU] [] M := e_in (Nat.le_of_ble_eq_true rfl)
-- DungeonBuilder$Reach.extend([IIII)V
theorem q_83_0 {d : Nat} {r : Nat} (hk : zkn SH r = 20) (hw : zln SH r = 12) (v1 v2 v3 : Int) (M : ZM) : Q d 83 0 [zR r, zI v1, zI v2, zI v3] [] M = if 0 ≤ v1 ∧ v1 < 12 then if (M r v1) ≠ v3 then (Rt none M) else (if 0 ≤ v2 ∧ v2 < 12 then if (M r v2) ≠ (-1) then (Rt none M) else (if 0 ≤ v2 ∧ v2 < 12 then Rt none (zwr M r v2 (zw (v3 + 1))) else none) else none) else none := by
  refine Eq.trans (s_aloadn f_83_0 rfl) ?_
  refine Eq.trans (s_iloadn f_83_1 rfl) ?_
  refine Eq.trans (s_iald f_83_2 hk hw) (gd_cg fun h1 => ?_)
  refine Eq.trans (s_iloadn f_83_3 rfl) ?_
  refine Eq.trans (s_icmp (P := (M r v1) ≠ v3) 20 f_83_4 (by decide) rfl) (ite_cg (fun h2 => ?_) (fun h2 => ?_))
  · exact s_vret f_83_20 t_83
  · refine Eq.trans (s_aloadn f_83_7 rfl) ?_
    refine Eq.trans (s_iloadn f_83_8 rfl) ?_
    refine Eq.trans (s_iald f_83_9 hk hw) (gd_cg fun h3 => ?_)
    refine Eq.trans (s_iconst f_83_10) ?_
    refine Eq.trans (s_icmp (P := (M r v2) ≠ (-1)) 20 f_83_11 (by decide) rfl) (ite_cg (fun h4 => ?_) (fun h4 => ?_))
    · exact s_vret f_83_20 t_83
    · refine Eq.trans (s_aloadn f_83_14 rfl) ?_
      refine Eq.trans (s_iloadn f_83_15 rfl) ?_
      refine Eq.trans (s_iloadn f_83_16 rfl) ?_
      refine Eq.trans (s_iconst f_83_17) ?_
      refine Eq.trans (s_iadd f_83_18) ?_
      refine Eq.trans (s_iast f_83_19 hk hw) (gd_cg fun h5 => ?_)
      exact s_vret f_83_20 t_83
theorem en_83 {d : Nat} {r : Nat} (v1 v2 v3 : Int) (M : ZM) : E (d + 1) 83 [zR r, zI v1, zI v2, zI v3] M = Q d 83 0 [zR r, zI v1, zI v2, zI v3] [] M := e_in (Nat.le_of_ble_eq_true rfl)
-- DungeonBuilder$Script.take(I)I
theorem q_85_0 {d : Nat} (v1 : Int) (M : ZM) : Q d 85 0 [zR 84, zI v1, zU, zU, zU] [] M = Q d 85 5 [zR 84, zI v1, zI 0, zI 24, zU] [] M := by
  refine Eq.trans (s_iconst f_85_0) ?_
  refine Eq.trans (s_istoren f_85_1 rfl) ?_
  refine Eq.trans (s_bipush f_85_2) ?_
  refine Eq.trans (s_istoren f_85_4 rfl) ?_
  rfl
theorem q_85_5 {d : Nat} (v1 v2 v3 : Int) (z4 : ZV) (M : ZM) : Q d 85 5 [zR 84, zI v1, zI v2, zI v3, z4] [] M = if v3 < 0 then (if (zw ((M 84 5) + v2)) ≤ 60 then (Q d 85 76 [zR 84, zI v1, zI v2, zI 24, z4] [] M) else (Rt (some (zI (-103))) M)) else (if (zand (zushr v1 v3) 255) = 0 then (if (zand (zushr v1 v3) 255) ≠ 0 then (Q d 85 5 [zR 84, zI v1, zI (zw (v2 + 1)), zI (zw (v3 + (-8))), zI (zand (zushr v1 v3) 255)] [] M) else (Q d 85 5 [zR 84, zI v1, zI (zw (v2 + 0)), zI (zw (v3 + (-8))), zI (zand (zushr v1 v3) 255)] [] M)) else (if (zand (zushr v1 v3) 255) < 33 then (Rt (some (zI (-102))) M) else (if (zand (zushr v1 v3) 255) ≤ 126 then (if (zand (zushr v1 v3) 255) ≠ 0 then (Q d 85 5 [zR 84, zI v1, zI (zw (v2 + 1)), zI (zw (v3 + (-8))), zI (zand (zushr v1 v3) 255)] [] M) else (Q d 85 5 [zR 84, zI v1, zI (zw (v2 + 0)), zI (zw (v3 + (-8))), zI (zand (zushr v1 v3) 255)] [] M)) else (Rt (some (zI (-102))) M)))) := by
  refine Eq.trans (s_iloadn f_85_5 rfl) ?_
  refine Eq.trans (s_if (P := v3 < 0) 59 f_85_6 (by decide) rfl) (ite_cg (fun h1 => ?_) (fun h1 => ?_))
  · refine Eq.trans (s_aloadn f_85_59 rfl) ?_
    refine Eq.trans (s_getI f_85_60 g_85_30 (by decide) kn_84) ?_
    refine Eq.trans (s_iloadn f_85_63 rfl) ?_
    refine Eq.trans (s_iadd f_85_64) ?_
    refine Eq.trans (s_bipush f_85_65) ?_
    refine Eq.trans (s_icmp (P := (zw ((M 84 5) + v2)) ≤ 60) 73 f_85_67 (by decide) rfl) (ite_cg (fun h2 => ?_) (fun h2 => ?_))
    · refine Eq.trans (s_bipush f_85_73) ?_
      refine Eq.trans (s_istoren f_85_75 rfl) ?_
      rfl
    · refine Eq.trans (s_bipush f_85_70) ?_
      exact s_iret f_85_72 t_85
  · refine Eq.trans (s_iloadn f_85_9 rfl) ?_
    refine Eq.trans (s_iloadn f_85_10 rfl) ?_
    refine Eq.trans (s_iushr f_85_11) ?_
    refine Eq.trans (s_sipush f_85_12) ?_
    refine Eq.trans (s_iand f_85_15) ?_
    refine Eq.trans (s_istore f_85_16 rfl) ?_
    refine Eq.trans (s_iload f_85_18 rfl) ?_
    refine Eq.trans (s_if (P := (zand (zushr v1 v3) 255) = 0) 40 f_85_20 (by decide) rfl) (ite_cg (fun h3 => ?_) (fun h3 => ?_))
    · refine Eq.trans (s_iloadn f_85_40 rfl) ?_
      refine Eq.trans (s_iload f_85_41 rfl) ?_
      refine Eq.trans (s_if (P := (zand (zushr v1 v3) 255) ≠ 0) 50 f_85_43 (by decide) rfl) (ite_cg (fun h4 => ?_) (fun h4 => ?_))
      · refine Eq.trans (s_iconst f_85_50) ?_
        refine Eq.trans (s_iadd f_85_51) ?_
        refine Eq.trans (s_istoren f_85_52 rfl) ?_
        refine Eq.trans (s_iinc f_85_53 rfl rfl) ?_
        refine Eq.trans (s_goto 5 f_85_56 (by decide)) ?_
        rfl
      · refine Eq.trans (s_iconst f_85_46) ?_
        refine Eq.trans (s_goto 51 f_85_47 (by decide)) ?_
        refine Eq.trans (s_iadd f_85_51) ?_
        refine Eq.trans (s_istoren f_85_52 rfl) ?_
        refine Eq.trans (s_iinc f_85_53 rfl rfl) ?_
        refine Eq.trans (s_goto 5 f_85_56 (by decide)) ?_
        rfl
    · refine Eq.trans (s_iload f_85_23 rfl) ?_
      refine Eq.trans (s_bipush f_85_25) ?_
      refine Eq.trans (s_icmp (P := (zand (zushr v1 v3) 255) < 33) 37 f_85_27 (by decide) rfl) (ite_cg (fun h5 => ?_) (fun h5 => ?_))
      · refine Eq.trans (s_bipush f_85_37) ?_
        exact s_iret f_85_39 t_85
      · refine Eq.trans (s_iload f_85_30 rfl) ?_
        refine Eq.trans (s_bipush f_85_32) ?_
        refine Eq.trans (s_icmp (P := (zand (zushr v1 v3) 255) ≤ 126) 40 f_85_34 (by decide) rfl) (ite_cg (fun h6 => ?_) (fun h6 => ?_))
        · refine Eq.trans (s_iloadn f_85_40 rfl) ?_
          refine Eq.trans (s_iload f_85_41 rfl) ?_
          refine Eq.trans (s_if (P := (zand (zushr v1 v3) 255) ≠ 0) 50 f_85_43 (by decide) rfl) (ite_cg (fun h7 => ?_) (fun h7 => ?_))
          · refine Eq.trans (s_iconst f_85_50) ?_
            refine Eq.trans (s_iadd f_85_51) ?_
            refine Eq.trans (s_istoren f_85_52 rfl) ?_
            refine Eq.trans (s_iinc f_85_53 rfl rfl) ?_
            refine Eq.trans (s_goto 5 f_85_56 (by decide)) ?_
            rfl
          · refine Eq.trans (s_iconst f_85_46) ?_
            refine Eq.trans (s_goto 51 f_85_47 (by decide)) ?_
            refine Eq.trans (s_iadd f_85_51) ?_
            refine Eq.trans (s_istoren f_85_52 rfl) ?_
            refine Eq.trans (s_iinc f_85_53 rfl rfl) ?_
            refine Eq.trans (s_goto 5 f_85_56 (by decide)) ?_
            rfl
        · refine Eq.trans (s_bipush f_85_37) ?_
          exact s_iret f_85_39 t_85
theorem q_85_76 {d : Nat} (v1 v2 v3 : Int) (z4 : ZV) (M : ZM) : Q d 85 76 [zR 84, zI v1, zI v2, zI v3, z4] [] M = if v3 < 0 then (Rt (some (zI (M 84 5))) M) else (Cb (E d 86 [zR 84, zI (zand (zushr v1 v3) 255)] M) (fun v h => zrun (zevl d) 85 91 [zR 84, zI v1, zI v2, zI v3, z4] (v.toList ++ []) h)) := by
  refine Eq.trans (s_iloadn f_85_76 rfl) ?_
  refine Eq.trans (s_if (P := v3 < 0) 97 f_85_77 (by decide) rfl) (ite_cg (fun h1 => ?_) (fun h1 => ?_))
  · refine Eq.trans (s_aloadn f_85_97 rfl) ?_
    refine Eq.trans (s_getI f_85_98 g_85_30 (by decide) kn_84) ?_
    exact s_iret f_85_101 t_85
  · refine Eq.trans (s_aloadn f_85_80 rfl) ?_
    refine Eq.trans (s_iloadn f_85_81 rfl) ?_
    refine Eq.trans (s_iloadn f_85_82 rfl) ?_
    refine Eq.trans (s_iushr f_85_83) ?_
    refine Eq.trans (s_sipush f_85_84) ?_
    refine Eq.trans (s_iand f_85_87) ?_
    exact s_call [zR 84, zI (zand (zushr v1 v3) 255)] [] f_85_88 rfl c_85_39 rfl rfl (Nat.le_of_ble_eq_true rfl) (by show (zkn SH 84 == zown 86) = true; rw [show zkn SH 84 = 7 from kn_84]; rfl)
theorem q_85_91 {d : Nat} (v1 v2 v3 : Int) (z4 : ZV) (M : ZM) : Q d 85 91 [zR 84, zI v1, zI v2, zI v3, z4] [] M = Q d 85 76 [zR 84, zI v1, zI v2, zI (zw (v3 + (-8))), z4] [] M := by
  refine Eq.trans (s_iinc f_85_91 rfl rfl) ?_
  refine Eq.trans (s_goto 76 f_85_94 (by decide)) ?_
  rfl
theorem en_85 {d : Nat} (v1 : Int) (M : ZM) : E (d + 1) 85 [zR 84, zI v1] M = Q d 85 0 [zR 84, zI v1, zU, zU, zU] [] M := e_in (Nat.le_of_ble_eq_true rfl)
-- DungeonBuilder$Script.put(I)V
theorem q_86_0 {d : Nat} (v1 : Int) (M : ZM) : Q d 86 0 [zR 84, zI v1] [] M = if v1 = 0 then (Rt none M) else (if 60 ≤ (M 84 5) then (Rt none M) else (if 0 ≤ (M 84 5) ∧ (M 84 5) < 60 then Rt none (zwr (zwr M 85 (M 84 5) v1) 84 5 (zw (((zwr M 85 (M 84 5) v1) 84 5) + 1))) else none)) := by
  refine Eq.trans (s_iloadn f_86_0 rfl) ?_
  refine Eq.trans (s_if (P := v1 = 0) 33 f_86_1 (by decide) rfl) (ite_cg (fun h1 => ?_) (fun h1 => ?_))
  · exact s_vret f_86_33 t_86
  · refine Eq.trans (s_aloadn f_86_4 rfl) ?_
    refine Eq.trans (s_getI f_86_5 g_86_30 (by decide) kn_84) ?_
    refine Eq.trans (s_bipush f_86_8) ?_
    refine Eq.trans (s_icmp (P := 60 ≤ (M 84 5)) 33 f_86_10 (by decide) rfl) (ite_cg (fun h2 => ?_) (fun h2 => ?_))
    · exact s_vret f_86_33 t_86
    · refine Eq.trans (s_aloadn f_86_13 rfl) ?_
      refine Eq.trans (s_getR f_86_14 g_86_11 (by decide) kn_84 rf_84_0) ?_
      refine Eq.trans (s_aloadn f_86_17 rfl) ?_
      refine Eq.trans (s_getI f_86_18 g_86_30 (by decide) kn_84) ?_
      refine Eq.trans (s_iloadn f_86_21 rfl) ?_
      refine Eq.trans (s_iast f_86_22 kn_85 ln_85) (gd_cg fun h3 => ?_)
      refine Eq.trans (s_aloadn f_86_23 rfl) ?_
      refine Eq.trans (s_dup f_86_24 rfl) ?_
      refine Eq.trans (s_getI f_86_25 g_86_30 (by decide) kn_84) ?_
      refine Eq.trans (s_iconst f_86_28) ?_
      refine Eq.trans (s_iadd f_86_29) ?_
      refine Eq.trans (s_putI f_86_30 g_86_30 (by decide) kn_84) ?_
      exact s_vret f_86_33 t_86
theorem en_86 {d : Nat} (v1 : Int) (M : ZM) : E (d + 1) 86 [zR 84, zI v1] M = Q d 86 0 [zR 84, zI v1] [] M := e_in (Nat.le_of_ble_eq_true rfl)
-- DungeonBuilder$Script.parse()Z
theorem q_87_0 {d : Nat} (M : ZM) : Q d 87 0 [zR 84, zU] [] M = Cb (E d 88 [zR 84] M) (fun v h => zrun (zevl d) 87 4 [zR 84, zU] (v.toList ++ []) h) := by
  refine Eq.trans (s_aloadn f_87_0 rfl) ?_
  exact s_call [zR 84] [] f_87_1 rfl c_87_43 rfl rfl (Nat.le_of_ble_eq_true rfl) (by show (zkn SH 84 == zown 88) = true; rw [show zkn SH 84 = 7 from kn_84]; rfl)
theorem q_87_4 {d : Nat} (s0 : Int) (M : ZM) : Q d 87 4 [zR 84, zU] [zI s0] M = if s0 = 0 then (if s0 = 0 ∨ s0 = 1 then Rt (some (zI s0)) (zwr (zwr M 84 7 (M 84 4)) 84 5 0) else none) else (if s0 = 0 ∨ s0 = 1 then Rt (some (zI s0)) (zwr (zwr M 84 7 (-104)) 84 5 0) else none) := by
  refine Eq.trans (s_istoren f_87_4 rfl) ?_
  refine Eq.trans (s_aloadn f_87_5 rfl) ?_
  refine Eq.trans (s_iloadn f_87_6 rfl) ?_
  refine Eq.trans (s_if (P := s0 = 0) 15 f_87_7 (by decide) rfl) (ite_cg (fun h1 => ?_) (fun h1 => ?_))
  · refine Eq.trans (s_aloadn f_87_15 rfl) ?_
    refine Eq.trans (s_getI f_87_16 g_87_26 (by decide) kn_84) ?_
    refine Eq.trans (s_putI f_87_19 g_87_36 (by decide) kn_84) ?_
    refine Eq.trans (s_aloadn f_87_22 rfl) ?_
    refine Eq.trans (s_iconst f_87_23) ?_
    refine Eq.trans (s_putI f_87_24 g_87_30 (by decide) kn_84) ?_
    refine Eq.trans (s_iloadn f_87_27 rfl) ?_
    exact s_zretg f_87_28 t_87
  · refine Eq.trans (s_bipush f_87_10) ?_
    refine Eq.trans (s_goto 19 f_87_12 (by decide)) ?_
    refine Eq.trans (s_putI f_87_19 g_87_36 (by decide) kn_84) ?_
    refine Eq.trans (s_aloadn f_87_22 rfl) ?_
    refine Eq.trans (s_iconst f_87_23) ?_
    refine Eq.trans (s_putI f_87_24 g_87_30 (by decide) kn_84) ?_
    refine Eq.trans (s_iloadn f_87_27 rfl) ?_
    exact s_zretg f_87_28 t_87
theorem en_87 {d : Nat} (M : ZM) : E (d + 1) 87 [zR 84] M = Q d 87 0 [zR 84, zU] [] M := e_in (Nat.le_of_ble_eq_true rfl)
-- DungeonBuilder$Script.parseCommands()Z
theorem q_88_0 {d : Nat} (M : ZM) : Q d 88 0 [zR 84, zU] [] M = Q d 88 7 [zR 84, zI 0] [] (zwr M 84 4 0) := by
  refine Eq.trans (s_aloadn f_88_0 rfl) ?_
  refine Eq.trans (s_iconst f_88_1) ?_
  refine Eq.trans (s_putI f_88_2 g_88_26 (by decide) kn_84) ?_
  refine Eq.trans (s_iconst f_88_5) ?_
  refine Eq.trans (s_istoren f_88_6 rfl) ?_
  rfl
theorem q_88_7 {d : Nat} (v1 : Int) (M : ZM) : Q d 88 7 [zR 84, zI v1] [] M = if 20 ≤ v1 then (Cb (E d 92 [zR 84, zI 59] M) (fun v h => zrun (zevl d) 88 70 [zR 84, zI v1] (v.toList ++ []) h)) else (if v1 ≤ 0 then (Cb (E d 89 [zR 84, zI v1] M) (fun v h => zrun (zevl d) 88 33 [zR 84, zI v1] (v.toList ++ []) h)) else (Cb (E d 92 [zR 84, zI 59] M) (fun v h => zrun (zevl d) 88 23 [zR 84, zI v1] (v.toList ++ []) h))) := by
  refine Eq.trans (s_iloadn f_88_7 rfl) ?_
  refine Eq.trans (s_bipush f_88_8) ?_
  refine Eq.trans (s_icmp (P := 20 ≤ v1) 64 f_88_10 (by decide) rfl) (ite_cg (fun h1 => ?_) (fun h1 => ?_))
  · refine Eq.trans (s_aloadn f_88_64 rfl) ?_
    refine Eq.trans (s_bipush f_88_65) ?_
    exact s_call [zR 84, zI 59] [] f_88_67 rfl c_88_47 rfl rfl (Nat.le_of_ble_eq_true rfl) (by show (zkn SH 84 == zown 92) = true; rw [show zkn SH 84 = 7 from kn_84]; rfl)
  · refine Eq.trans (s_iloadn f_88_13 rfl) ?_
    refine Eq.trans (s_if (P := v1 ≤ 0) 28 f_88_14 (by decide) rfl) (ite_cg (fun h2 => ?_) (fun h2 => ?_))
    · refine Eq.trans (s_aloadn f_88_28 rfl) ?_
      refine Eq.trans (s_iloadn f_88_29 rfl) ?_
      exact s_call [zR 84, zI v1] [] f_88_30 rfl c_88_51 rfl rfl (Nat.le_of_ble_eq_true rfl) (by show (zkn SH 84 == zown 89) = true; rw [show zkn SH 84 = 7 from kn_84]; rfl)
    · refine Eq.trans (s_aloadn f_88_17 rfl) ?_
      refine Eq.trans (s_bipush f_88_18) ?_
      exact s_call [zR 84, zI 59] [] f_88_20 rfl c_88_47 rfl rfl (Nat.le_of_ble_eq_true rfl) (by show (zkn SH 84 == zown 92) = true; rw [show zkn SH 84 = 7 from kn_84]; rfl)
theorem q_88_23 {d : Nat} (v1 s0 : Int) (M : ZM) : Q d 88 23 [zR 84, zI v1] [zI s0] M = if s0 ≠ 0 then (Cb (E d 89 [zR 84, zI v1] M) (fun v h => zrun (zevl d) 88 33 [zR 84, zI v1] (v.toList ++ []) h)) else (Rt (some (zI 0)) M) := by
  refine Eq.trans (s_if (P := s0 ≠ 0) 28 f_88_23 (by decide) rfl) (ite_cg (fun h1 => ?_) (fun h1 => ?_))
  · refine Eq.trans (s_aloadn f_88_28 rfl) ?_
    refine Eq.trans (s_iloadn f_88_29 rfl) ?_
    exact s_call [zR 84, zI v1] [] f_88_30 rfl c_88_51 rfl rfl (Nat.le_of_ble_eq_true rfl) (by show (zkn SH 84 == zown 89) = true; rw [show zkn SH 84 = 7 from kn_84]; rfl)
  · refine Eq.trans (s_iconst f_88_26) ?_
    exact s_zret f_88_27 t_88 (by decide)
theorem q_88_33 {d : Nat} (v1 s0 : Int) (M : ZM) : Q d 88 33 [zR 84, zI v1] [zI s0] M = if s0 ≠ 0 then (if (M 84 4) ≠ (M 84 5) then (Q d 88 7 [zR 84, zI (zw (v1 + 1))] [] M) else (Rt (some (zI 1)) (zwr M 84 6 (zw (v1 + 1))))) else (Rt (some (zI 0)) M) := by
  refine Eq.trans (s_if (P := s0 ≠ 0) 38 f_88_33 (by decide) rfl) (ite_cg (fun h1 => ?_) (fun h1 => ?_))
  · refine Eq.trans (s_aloadn f_88_38 rfl) ?_
    refine Eq.trans (s_getI f_88_39 g_88_26 (by decide) kn_84) ?_
    refine Eq.trans (s_aloadn f_88_42 rfl) ?_
    refine Eq.trans (s_getI f_88_43 g_88_30 (by decide) kn_84) ?_
    refine Eq.trans (s_icmp (P := (M 84 4) ≠ (M 84 5)) 58 f_88_46 (by decide) rfl) (ite_cg (fun h2 => ?_) (fun h2 => ?_))
    · refine Eq.trans (s_iinc f_88_58 rfl rfl) ?_
      refine Eq.trans (s_goto 7 f_88_61 (by decide)) ?_
      rfl
    · refine Eq.trans (s_aloadn f_88_49 rfl) ?_
      refine Eq.trans (s_iloadn f_88_50 rfl) ?_
      refine Eq.trans (s_iconst f_88_51) ?_
      refine Eq.trans (s_iadd f_88_52) ?_
      refine Eq.trans (s_putI f_88_53 g_88_33 (by decide) kn_84) ?_
      refine Eq.trans (s_iconst f_88_56) ?_
      exact s_zret f_88_57 t_88 (by decide)
  · refine Eq.trans (s_iconst f_88_36) ?_
    exact s_zret f_88_37 t_88 (by decide)
theorem q_88_70 {d : Nat} (v1 s0 : Int) (M : ZM) : Q d 88 70 [zR 84, zI v1] [zI s0] M = Rt (some (zI 0)) M := by
  refine Eq.trans (s_pop f_88_70 rfl) ?_
  refine Eq.trans (s_iconst f_88_71) ?_
  exact s_zret f_88_72 t_88 (by decide)
theorem en_88 {d : Nat} (M : ZM) : E (d + 1) 88 [zR 84] M = Q d 88 0 [zR 84, zU] [] M := e_in (Nat.le_of_ble_eq_true rfl)
-- DungeonBuilder$Script.parseCommand(I)Z
theorem q_89_0 {d : Nat} (v1 : Int) (M : ZM) : Q d 89 0 [zR 84, zI v1, zU, zU, zU] [] M = Cb (E d 93 [zR 84, zI (M 84 4)] M) (fun v h => zrun (zevl d) 89 8 [zR 84, zI v1, zU, zU, zU] (v.toList ++ []) h) := by
  refine Eq.trans (s_aloadn f_89_0 rfl) ?_
  refine Eq.trans (s_aloadn f_89_1 rfl) ?_
  refine Eq.trans (s_getI f_89_2 g_89_26 (by decide) kn_84) ?_
  exact s_call [zR 84, zI (M 84 4)] [] f_89_5 rfl c_89_54 rfl rfl (Nat.le_of_ble_eq_true rfl) (by show (zkn SH 84 == zown 93) = true; rw [show zkn SH 84 = 7 from kn_84]; rfl)
theorem q_89_8 {d : Nat} (v1 s0 : Int) (M : ZM) : Q d 89 8 [zR 84, zI v1, zU, zU, zU] [zI s0] M = Cb (E d 90 [zI s0] M) (fun v h => zrun (zevl d) 89 13 [zR 84, zI v1, zI s0, zU, zU] (v.toList ++ []) h) := by
  refine Eq.trans (s_istoren f_89_8 rfl) ?_
  refine Eq.trans (s_iloadn f_89_9 rfl) ?_
  exact s_call [zI s0] [] f_89_10 rfl c_89_58 rfl rfl (Nat.le_of_ble_eq_true rfl) rfl
theorem q_89_13 {d : Nat} (v1 v2 s0 : Int) (M : ZM) : Q d 89 13 [zR 84, zI v1, zI v2, zU, zU] [zI s0] M = if s0 ≠ 0 then (if 0 ≤ v1 ∧ v1 < 20 then if 0 ≤ v1 ∧ v1 < 20 then Q d 89 50 [zR 84, zI v1, zI v2, zI s0, zI 0] [] (zwr (zwr (zwr M 86 v1 v2) 87 v1 ((zwr M 86 v1 v2) 84 4)) 84 4 (zw (((zwr (zwr M 86 v1 v2) 87 v1 ((zwr M 86 v1 v2) 84 4)) 84 4) + 1))) else none else none) else (Rt (some (zI 0)) M) := by
  refine Eq.trans (s_istoren f_89_13 rfl) ?_
  refine Eq.trans (s_iloadn f_89_14 rfl) ?_
  refine Eq.trans (s_if (P := s0 ≠ 0) 20 f_89_15 (by decide) rfl) (ite_cg (fun h1 => ?_) (fun h1 => ?_))
  · refine Eq.trans (s_aloadn f_89_20 rfl) ?_
    refine Eq.trans (s_getR f_89_21 g_89_15 (by decide) kn_84 rf_84_1) ?_
    refine Eq.trans (s_iloadn f_89_24 rfl) ?_
    refine Eq.trans (s_iloadn f_89_25 rfl) ?_
    refine Eq.trans (s_iast f_89_26 kn_86 ln_86) (gd_cg fun h2 => ?_)
    refine Eq.trans (s_aloadn f_89_27 rfl) ?_
    refine Eq.trans (s_getR f_89_28 g_89_18 (by decide) kn_84 rf_84_2) ?_
    refine Eq.trans (s_iloadn f_89_31 rfl) ?_
    refine Eq.trans (s_aloadn f_89_32 rfl) ?_
    refine Eq.trans (s_getI f_89_33 g_89_26 (by decide) kn_84) ?_
    refine Eq.trans (s_iast f_89_36 kn_87 ln_87) (gd_cg fun h3 => ?_)
    refine Eq.trans (s_aloadn f_89_37 rfl) ?_
    refine Eq.trans (s_dup f_89_38 rfl) ?_
    refine Eq.trans (s_getI f_89_39 g_89_26 (by decide) kn_84) ?_
    refine Eq.trans (s_iconst f_89_42) ?_
    refine Eq.trans (s_iadd f_89_43) ?_
    refine Eq.trans (s_putI f_89_44 g_89_26 (by decide) kn_84) ?_
    refine Eq.trans (s_iconst f_89_47) ?_
    refine Eq.trans (s_istore f_89_48 rfl) ?_
    rfl
  · refine Eq.trans (s_iconst f_89_18) ?_
    exact s_zret f_89_19 t_89 (by decide)
theorem q_89_50 {d : Nat} (v1 v2 v3 v4 : Int) (M : ZM) : Q d 89 50 [zR 84, zI v1, zI v2, zI v3, zI v4] [] M = if v3 ≤ v4 then (Rt (some (zI 1)) M) else (if v4 ≤ 0 then (Cb (E d 93 [zR 84, zI (M 84 4)] M) (fun v h => zrun (zevl d) 89 80 [zR 84, zI v1, zI v2, zI v3, zI v4] (v.toList ++ []) h)) else (Cb (E d 92 [zR 84, zI 44] M) (fun v h => zrun (zevl d) 89 67 [zR 84, zI v1, zI v2, zI v3, zI v4] (v.toList ++ []) h))) := by
  refine Eq.trans (s_iload f_89_50 rfl) ?_
  refine Eq.trans (s_iloadn f_89_52 rfl) ?_
  refine Eq.trans (s_icmp (P := v3 ≤ v4) 107 f_89_53 (by decide) rfl) (ite_cg (fun h1 => ?_) (fun h1 => ?_))
  · refine Eq.trans (s_iconst f_89_107) ?_
    exact s_zret f_89_108 t_89 (by decide)
  · refine Eq.trans (s_iload f_89_56 rfl) ?_
    refine Eq.trans (s_if (P := v4 ≤ 0) 72 f_89_58 (by decide) rfl) (ite_cg (fun h2 => ?_) (fun h2 => ?_))
    · refine Eq.trans (s_aloadn f_89_72 rfl) ?_
      refine Eq.trans (s_aloadn f_89_73 rfl) ?_
      refine Eq.trans (s_getI f_89_74 g_89_26 (by decide) kn_84) ?_
      exact s_call [zR 84, zI (M 84 4)] [] f_89_77 rfl c_89_54 rfl rfl (Nat.le_of_ble_eq_true rfl) (by show (zkn SH 84 == zown 93) = true; rw [show zkn SH 84 = 7 from kn_84]; rfl)
    · refine Eq.trans (s_aloadn f_89_61 rfl) ?_
      refine Eq.trans (s_bipush f_89_62) ?_
      exact s_call [zR 84, zI 44] [] f_89_64 rfl c_89_47 rfl rfl (Nat.le_of_ble_eq_true rfl) (by show (zkn SH 84 == zown 92) = true; rw [show zkn SH 84 = 7 from kn_84]; rfl)
theorem q_89_67 {d : Nat} (v1 v2 v3 v4 s0 : Int) (M : ZM) : Q d 89 67 [zR 84, zI v1, zI v2, zI v3, zI v4] [zI s0] M = if s0 ≠ 0 then (Cb (E d 93 [zR 84, zI (M 84 4)] M) (fun v h => zrun (zevl d) 89 80 [zR 84, zI v1, zI v2, zI v3, zI v4] (v.toList ++ []) h)) else (Rt (some (zI 0)) M) := by
  refine Eq.trans (s_if (P := s0 ≠ 0) 72 f_89_67 (by decide) rfl) (ite_cg (fun h1 => ?_) (fun h1 => ?_))
  · refine Eq.trans (s_aloadn f_89_72 rfl) ?_
    refine Eq.trans (s_aloadn f_89_73 rfl) ?_
    refine Eq.trans (s_getI f_89_74 g_89_26 (by decide) kn_84) ?_
    exact s_call [zR 84, zI (M 84 4)] [] f_89_77 rfl c_89_54 rfl rfl (Nat.le_of_ble_eq_true rfl) (by show (zkn SH 84 == zown 93) = true; rw [show zkn SH 84 = 7 from kn_84]; rfl)
  · refine Eq.trans (s_iconst f_89_70) ?_
    exact s_zret f_89_71 t_89 (by decide)
theorem q_89_80 {d : Nat} (v1 v2 v3 v4 s0 : Int) (M : ZM) : Q d 89 80 [zR 84, zI v1, zI v2, zI v3, zI v4] [zI s0] M = Cb (E d 94 [zI s0] M) (fun v h => zrun (zevl d) 89 83 [zR 84, zI v1, zI v2, zI v3, zI v4] (v.toList ++ []) h) := by
  exact s_call [zI s0] [] f_89_80 rfl c_89_61 rfl rfl (Nat.le_of_ble_eq_true rfl) rfl
theorem q_89_83 {d : Nat} (v1 v2 v3 v4 s0 : Int) (M : ZM) : Q d 89 83 [zR 84, zI v1, zI v2, zI v3, zI v4] [zI s0] M = if s0 ≠ 0 then (if 0 ≤ v1 ∧ v1 < 20 then Cb (E d 91 [zR 84] M) (fun v h => zrun (zevl d) 89 100 [zR 84, zI v1, zI v2, zI v3, zI v4] (v.toList ++ [zI v4, zR (89 + (v1).toNat)]) h) else none) else (Rt (some (zI 0)) M) := by
  refine Eq.trans (s_if (P := s0 ≠ 0) 88 f_89_83 (by decide) rfl) (ite_cg (fun h1 => ?_) (fun h1 => ?_))
  · refine Eq.trans (s_aloadn f_89_88 rfl) ?_
    refine Eq.trans (s_getR f_89_89 g_89_23 (by decide) kn_84 rf_84_3) ?_
    refine Eq.trans (s_iloadn f_89_92 rfl) ?_
    refine Eq.trans (s_aald88 f_89_93) (gd_cg fun h2 => ?_)
    refine Eq.trans (s_iload f_89_94 rfl) ?_
    refine Eq.trans (s_aloadn f_89_96 rfl) ?_
    exact s_call [zR 84] [zI v4, zR (89 + (v1).toNat)] f_89_97 rfl c_89_64 rfl rfl (Nat.le_of_ble_eq_true rfl) (by show (zkn SH 84 == zown 91) = true; rw [show zkn SH 84 = 7 from kn_84]; rfl)
  · refine Eq.trans (s_iconst f_89_86) ?_
    exact s_zret f_89_87 t_89 (by decide)
theorem q_89_100 {d : Nat} {r : Nat} (hk : zkn SH r = 20) (hw : zln SH r = 4) (v1 v2 v3 v4 s1 s2 : Int) (M : ZM) : Q d 89 100 [zR 84, zI v1, zI v2, zI v3, zI v4] [zI s2, zI s1, zR r] M = if 0 ≤ s1 ∧ s1 < 4 then Q d 89 50 [zR 84, zI v1, zI v2, zI v3, zI (zw (v4 + 1))] [] (zwr M r s1 s2) else none := by
  refine Eq.trans (s_iast f_89_100 hk hw) (gd_cg fun h1 => ?_)
  refine Eq.trans (s_iinc f_89_101 rfl rfl) ?_
  refine Eq.trans (s_goto 50 f_89_104 (by decide)) ?_
  rfl
theorem en_89 {d : Nat} (v1 : Int) (M : ZM) : E (d + 1) 89 [zR 84, zI v1] M = Q d 89 0 [zR 84, zI v1, zU, zU, zU] [] M := e_in (Nat.le_of_ble_eq_true rfl)
-- DungeonBuilder$Script.numbersOf(I)I
theorem q_90_0 {d : Nat} (v0 : Int) (M : ZM) : Q d 90 0 [zI v0] [] M = if v0 = 99 then (Rt (some (zI 2)) M) else (if v0 = 101 then (Rt (some (zI 1)) M) else (if v0 = 107 then (Rt (some (zI 2)) M) else (if v0 = 108 then (Rt (some (zI 2)) M) else (if v0 = 114 then (Rt (some (zI 4)) M) else (Rt (some (zI 0)) M))))) := by
  refine Eq.trans (s_iloadn f_90_0 rfl) ?_
  refine Eq.trans (w_90_1) ?_
  refine ite_cg (fun h2 => ?_) (fun h2 => ?_)
  · refine Eq.trans (s_iconst f_90_54) ?_
    exact s_iret f_90_55 t_90
  refine ite_cg (fun h3 => ?_) (fun h3 => ?_)
  · refine Eq.trans (s_iconst f_90_56) ?_
    exact s_iret f_90_57 t_90
  refine ite_cg (fun h4 => ?_) (fun h4 => ?_)
  · refine Eq.trans (s_iconst f_90_54) ?_
    exact s_iret f_90_55 t_90
  refine ite_cg (fun h5 => ?_) (fun h5 => ?_)
  · refine Eq.trans (s_iconst f_90_54) ?_
    exact s_iret f_90_55 t_90
  refine ite_cg (fun h6 => ?_) (fun h6 => ?_)
  · refine Eq.trans (s_iconst f_90_52) ?_
    exact s_iret f_90_53 t_90
  refine Eq.trans (s_iconst f_90_58) ?_
  exact s_iret f_90_59 t_90
theorem en_90 {d : Nat} (v0 : Int) (M : ZM) : E (d + 1) 90 [zI v0] M = Q d 90 0 [zI v0] [] M := e_in (Nat.le_of_ble_eq_true rfl)
-- DungeonBuilder$Script.parseNumber()I
theorem q_91_0 {d : Nat} (M : ZM) : Q d 91 0 [zR 84, zU] [] M = Cb (E d 93 [zR 84, zI (M 84 4)] M) (fun v h => zrun (zevl d) 91 8 [zR 84, zU] (v.toList ++ []) h) := by
  refine Eq.trans (s_aloadn f_91_0 rfl) ?_
  refine Eq.trans (s_aloadn f_91_1 rfl) ?_
  refine Eq.trans (s_getI f_91_2 g_91_26 (by decide) kn_84) ?_
  exact s_call [zR 84, zI (M 84 4)] [] f_91_5 rfl c_91_54 rfl rfl (Nat.le_of_ble_eq_true rfl) (by show (zkn SH 84 == zown 93) = true; rw [show zkn SH 84 = 7 from kn_84]; rfl)
theorem q_91_8 {d : Nat} (s0 : Int) (M : ZM) : Q d 91 8 [zR 84, zU] [zI s0] M = Cb (E d 93 [zR 84, zI ((zwr M 84 4 (zw ((M 84 4) + 1))) 84 4)] (zwr M 84 4 (zw ((M 84 4) + 1)))) (fun v h => zrun (zevl d) 91 30 [zR 84, zI (zw (s0 - 48))] (v.toList ++ []) h) := by
  refine Eq.trans (s_bipush f_91_8) ?_
  refine Eq.trans (s_isub f_91_10) ?_
  refine Eq.trans (s_istoren f_91_11 rfl) ?_
  refine Eq.trans (s_aloadn f_91_12 rfl) ?_
  refine Eq.trans (s_dup f_91_13 rfl) ?_
  refine Eq.trans (s_getI f_91_14 g_91_26 (by decide) kn_84) ?_
  refine Eq.trans (s_iconst f_91_17) ?_
  refine Eq.trans (s_iadd f_91_18) ?_
  refine Eq.trans (s_putI f_91_19 g_91_26 (by decide) kn_84) ?_
  refine Eq.trans (s_aloadn f_91_22 rfl) ?_
  refine Eq.trans (s_aloadn f_91_23 rfl) ?_
  refine Eq.trans (s_getI f_91_24 g_91_26 (by decide) kn_84) ?_
  exact s_call [zR 84, zI ((zwr M 84 4 (zw ((M 84 4) + 1))) 84 4)] [] f_91_27 rfl c_91_54 rfl rfl (Nat.le_of_ble_eq_true rfl) (by show (zkn SH 84 == zown 93) = true; rw [show zkn SH 84 = 7 from kn_84]; rfl)
theorem q_91_30 {d : Nat} (v1 s0 : Int) (M : ZM) : Q d 91 30 [zR 84, zI v1] [zI s0] M = Cb (E d 94 [zI s0] M) (fun v h => zrun (zevl d) 91 33 [zR 84, zI v1] (v.toList ++ []) h) := by
  exact s_call [zI s0] [] f_91_30 rfl c_91_61 rfl rfl (Nat.le_of_ble_eq_true rfl) rfl
theorem q_91_33 {d : Nat} (v1 s0 : Int) (M : ZM) : Q d 91 33 [zR 84, zI v1] [zI s0] M = if s0 = 0 then (Rt (some (zI v1)) M) else (Cb (E d 93 [zR 84, zI (M 84 4)] M) (fun v h => zrun (zevl d) 91 48 [zR 84, zI v1] (v.toList ++ [zI (zw (10 * v1))]) h)) := by
  refine Eq.trans (s_if (P := s0 = 0) 63 f_91_33 (by decide) rfl) (ite_cg (fun h1 => ?_) (fun h1 => ?_))
  · refine Eq.trans (s_iloadn f_91_63 rfl) ?_
    exact s_iret f_91_64 t_91
  · refine Eq.trans (s_bipush f_91_36) ?_
    refine Eq.trans (s_iloadn f_91_38 rfl) ?_
    refine Eq.trans (s_imul f_91_39) ?_
    refine Eq.trans (s_aloadn f_91_40 rfl) ?_
    refine Eq.trans (s_aloadn f_91_41 rfl) ?_
    refine Eq.trans (s_getI f_91_42 g_91_26 (by decide) kn_84) ?_
    exact s_call [zR 84, zI (M 84 4)] [zI (zw (10 * v1))] f_91_45 rfl c_91_54 rfl rfl (Nat.le_of_ble_eq_true rfl) (by show (zkn SH 84 == zown 93) = true; rw [show zkn SH 84 = 7 from kn_84]; rfl)
theorem q_91_48 {d : Nat} (v1 s0 s1 : Int) (M : ZM) : Q d 91 48 [zR 84, zI v1] [zI s1, zI s0] M = Rt (some (zI (zw ((zw (s0 + s1)) - 48)))) (zwr M 84 4 (zw ((M 84 4) + 1))) := by
  refine Eq.trans (s_iadd f_91_48) ?_
  refine Eq.trans (s_bipush f_91_49) ?_
  refine Eq.trans (s_isub f_91_51) ?_
  refine Eq.trans (s_istoren f_91_52 rfl) ?_
  refine Eq.trans (s_aloadn f_91_53 rfl) ?_
  refine Eq.trans (s_dup f_91_54 rfl) ?_
  refine Eq.trans (s_getI f_91_55 g_91_26 (by decide) kn_84) ?_
  refine Eq.trans (s_iconst f_91_58) ?_
  refine Eq.trans (s_iadd f_91_59) ?_
  refine Eq.trans (s_putI f_91_60 g_91_26 (by decide) kn_84) ?_
  refine Eq.trans (s_iloadn f_91_63 rfl) ?_
  exact s_iret f_91_64 t_91
theorem en_91 {d : Nat} (M : ZM) : E (d + 1) 91 [zR 84] M = Q d 91 0 [zR 84, zU] [] M := e_in (Nat.le_of_ble_eq_true rfl)
-- DungeonBuilder$Script.skip(I)Z
theorem q_92_0 {d : Nat} (v1 : Int) (M : ZM) : Q d 92 0 [zR 84, zI v1] [] M = Cb (E d 93 [zR 84, zI (M 84 4)] M) (fun v h => zrun (zevl d) 92 8 [zR 84, zI v1] (v.toList ++ []) h) := by
  refine Eq.trans (s_aloadn f_92_0 rfl) ?_
  refine Eq.trans (s_aloadn f_92_1 rfl) ?_
  refine Eq.trans (s_getI f_92_2 g_92_26 (by decide) kn_84) ?_
  exact s_call [zR 84, zI (M 84 4)] [] f_92_5 rfl c_92_54 rfl rfl (Nat.le_of_ble_eq_true rfl) (by show (zkn SH 84 == zown 93) = true; rw [show zkn SH 84 = 7 from kn_84]; rfl)
theorem q_92_8 {d : Nat} (v1 s0 : Int) (M : ZM) : Q d 92 8 [zR 84, zI v1] [zI s0] M = if s0 = v1 then (Rt (some (zI 1)) (zwr M 84 4 (zw ((M 84 4) + 1)))) else (Rt (some (zI 0)) M) := by
  refine Eq.trans (s_iloadn f_92_8 rfl) ?_
  refine Eq.trans (s_icmp (P := s0 = v1) 14 f_92_9 (by decide) rfl) (ite_cg (fun h1 => ?_) (fun h1 => ?_))
  · refine Eq.trans (s_aloadn f_92_14 rfl) ?_
    refine Eq.trans (s_dup f_92_15 rfl) ?_
    refine Eq.trans (s_getI f_92_16 g_92_26 (by decide) kn_84) ?_
    refine Eq.trans (s_iconst f_92_19) ?_
    refine Eq.trans (s_iadd f_92_20) ?_
    refine Eq.trans (s_putI f_92_21 g_92_26 (by decide) kn_84) ?_
    refine Eq.trans (s_iconst f_92_24) ?_
    exact s_zret f_92_25 t_92 (by decide)
  · refine Eq.trans (s_iconst f_92_12) ?_
    exact s_zret f_92_13 t_92 (by decide)
theorem en_92 {d : Nat} (v1 : Int) (M : ZM) : E (d + 1) 92 [zR 84, zI v1] M = Q d 92 0 [zR 84, zI v1] [] M := e_in (Nat.le_of_ble_eq_true rfl)
-- DungeonBuilder$Script.signAt(I)I
theorem q_93_0 {d : Nat} (v1 : Int) (M : ZM) : Q d 93 0 [zR 84, zI v1] [] M = if v1 < 0 then (Rt (some (zI 0)) M) else (if (M 84 5) ≤ v1 then (Rt (some (zI 0)) M) else (if 0 ≤ v1 ∧ v1 < 60 then Rt (some (zI (M 85 v1))) M else none)) := by
  refine Eq.trans (s_iloadn f_93_0 rfl) ?_
  refine Eq.trans (s_if (P := v1 < 0) 21 f_93_1 (by decide) rfl) (ite_cg (fun h1 => ?_) (fun h1 => ?_))
  · refine Eq.trans (s_iconst f_93_21) ?_
    exact s_iret f_93_22 t_93
  · refine Eq.trans (s_iloadn f_93_4 rfl) ?_
    refine Eq.trans (s_aloadn f_93_5 rfl) ?_
    refine Eq.trans (s_getI f_93_6 g_93_30 (by decide) kn_84) ?_
    refine Eq.trans (s_icmp (P := (M 84 5) ≤ v1) 21 f_93_9 (by decide) rfl) (ite_cg (fun h2 => ?_) (fun h2 => ?_))
    · refine Eq.trans (s_iconst f_93_21) ?_
      exact s_iret f_93_22 t_93
    · refine Eq.trans (s_aloadn f_93_12 rfl) ?_
      refine Eq.trans (s_getR f_93_13 g_93_11 (by decide) kn_84 rf_84_0) ?_
      refine Eq.trans (s_iloadn f_93_16 rfl) ?_
      refine Eq.trans (s_iald f_93_17 kn_85 ln_85) (gd_cg fun h3 => ?_)
      refine Eq.trans (s_goto 22 f_93_18 (by decide)) ?_
      exact s_iret f_93_22 t_93
theorem en_93 {d : Nat} (v1 : Int) (M : ZM) : E (d + 1) 93 [zR 84, zI v1] M = Q d 93 0 [zR 84, zI v1] [] M := e_in (Nat.le_of_ble_eq_true rfl)
-- DungeonBuilder$Script.isDigit(I)Z
theorem q_94_0 {d : Nat} (v0 : Int) (M : ZM) : Q d 94 0 [zI v0] [] M = if v0 < 48 then (Rt (some (zI 0)) M) else (if 57 < v0 then (Rt (some (zI 0)) M) else (Rt (some (zI 1)) M)) := by
  refine Eq.trans (s_iloadn f_94_0 rfl) ?_
  refine Eq.trans (s_bipush f_94_1) ?_
  refine Eq.trans (s_icmp (P := v0 < 48) 16 f_94_3 (by decide) rfl) (ite_cg (fun h1 => ?_) (fun h1 => ?_))
  · refine Eq.trans (s_iconst f_94_16) ?_
    exact s_zret f_94_17 t_94 (by decide)
  · refine Eq.trans (s_iloadn f_94_6 rfl) ?_
    refine Eq.trans (s_bipush f_94_7) ?_
    refine Eq.trans (s_icmp (P := 57 < v0) 16 f_94_9 (by decide) rfl) (ite_cg (fun h2 => ?_) (fun h2 => ?_))
    · refine Eq.trans (s_iconst f_94_16) ?_
      exact s_zret f_94_17 t_94 (by decide)
    · refine Eq.trans (s_iconst f_94_12) ?_
      refine Eq.trans (s_goto 17 f_94_13 (by decide)) ?_
      exact s_zret f_94_17 t_94 (by decide)
theorem en_94 {d : Nat} (v0 : Int) (M : ZM) : E (d + 1) 94 [zI v0] M = Q d 94 0 [zI v0] [] M := e_in (Nat.le_of_ble_eq_true rfl)
-- DungeonBuilder$Script.execute(LDungeonBuilder$Dungeon;)Z
theorem q_95_0 {d : Nat} (M : ZM) : Q d 95 0 [zR 84, zR 1, zU, zU] [] M = Q d 95 2 [zR 84, zR 1, zI 0, zU] [] M := by
  refine Eq.trans (s_iconst f_95_0) ?_
  refine Eq.trans (s_istoren f_95_1 rfl) ?_
  rfl
theorem q_95_2 {d : Nat} (v2 : Int) (z3 : ZV) (M : ZM) : Q d 95 2 [zR 84, zR 1, zI v2, z3] [] M = if (M 84 6) ≤ v2 then (Rt (some (zI 1)) M) else (if 0 ≤ v2 ∧ v2 < 20 then if 0 ≤ v2 ∧ v2 < 20 then Cb (E d 96 [zR 1, zI (M 86 v2), zR (89 + (v2).toNat)] M) (fun v h => zrun (zevl d) 95 26 [zR 84, zR 1, zI v2, z3] (v.toList ++ []) h) else none else none) := by
  refine Eq.trans (s_iloadn f_95_2 rfl) ?_
  refine Eq.trans (s_aloadn f_95_3 rfl) ?_
  refine Eq.trans (s_getI f_95_4 g_95_33 (by decide) kn_84) ?_
  refine Eq.trans (s_icmp (P := (M 84 6) ≤ v2) 55 f_95_7 (by decide) rfl) (ite_cg (fun h1 => ?_) (fun h1 => ?_))
  · refine Eq.trans (s_iconst f_95_55) ?_
    exact s_zret f_95_56 t_95 (by decide)
  · refine Eq.trans (s_aloadn f_95_10 rfl) ?_
    refine Eq.trans (s_aloadn f_95_11 rfl) ?_
    refine Eq.trans (s_getR f_95_12 g_95_15 (by decide) kn_84 rf_84_1) ?_
    refine Eq.trans (s_iloadn f_95_15 rfl) ?_
    refine Eq.trans (s_iald f_95_16 kn_86 ln_86) (gd_cg fun h2 => ?_)
    refine Eq.trans (s_aloadn f_95_17 rfl) ?_
    refine Eq.trans (s_getR f_95_18 g_95_23 (by decide) kn_84 rf_84_3) ?_
    refine Eq.trans (s_iloadn f_95_21 rfl) ?_
    refine Eq.trans (s_aald88 f_95_22) (gd_cg fun h3 => ?_)
    exact s_call [zR 1, zI (M 86 v2), zR (89 + (v2).toNat)] [] f_95_23 rfl c_95_68 rfl rfl (Nat.le_of_ble_eq_true rfl) rfl
theorem q_95_26 {d : Nat} (v2 s0 : Int) (z3 : ZV) (M : ZM) : Q d 95 26 [zR 84, zR 1, zI v2, z3] [zI s0] M = if 0 ≤ s0 then (Q d 95 2 [zR 84, zR 1, zI (zw (v2 + 1)), zI s0] [] M) else (if s0 = (-104) then (Q d 95 2 [zR 84, zR 1, zI (zw (v2 + 1)), zI s0] [] M) else (if 0 ≤ v2 ∧ v2 < 20 then Rt (some (zI 0)) (zwr M 84 7 (M 87 v2)) else none)) := by
  refine Eq.trans (s_istoren f_95_26 rfl) ?_
  refine Eq.trans (s_iloadn f_95_27 rfl) ?_
  refine Eq.trans (s_if (P := 0 ≤ s0) 49 f_95_28 (by decide) rfl) (ite_cg (fun h1 => ?_) (fun h1 => ?_))
  · refine Eq.trans (s_iinc f_95_49 rfl rfl) ?_
    refine Eq.trans (s_goto 2 f_95_52 (by decide)) ?_
    rfl
  · refine Eq.trans (s_iloadn f_95_31 rfl) ?_
    refine Eq.trans (s_bipush f_95_32) ?_
    refine Eq.trans (s_icmp (P := s0 = (-104)) 49 f_95_34 (by decide) rfl) (ite_cg (fun h2 => ?_) (fun h2 => ?_))
    · refine Eq.trans (s_iinc f_95_49 rfl rfl) ?_
      refine Eq.trans (s_goto 2 f_95_52 (by decide)) ?_
      rfl
    · refine Eq.trans (s_aloadn f_95_37 rfl) ?_
      refine Eq.trans (s_aloadn f_95_38 rfl) ?_
      refine Eq.trans (s_getR f_95_39 g_95_18 (by decide) kn_84 rf_84_2) ?_
      refine Eq.trans (s_iloadn f_95_42 rfl) ?_
      refine Eq.trans (s_iald f_95_43 kn_87 ln_87) (gd_cg fun h3 => ?_)
      refine Eq.trans (s_putI f_95_44 g_95_36 (by decide) kn_84) ?_
      refine Eq.trans (s_iconst f_95_47) ?_
      exact s_zret f_95_48 t_95 (by decide)
theorem en_95 {d : Nat} (M : ZM) : E (d + 1) 95 [zR 84, zR 1] M = Q d 95 0 [zR 84, zR 1, zU, zU] [] M := e_in (Nat.le_of_ble_eq_true rfl)
-- DungeonBuilder$Script.executeOne(LDungeonBuilder$Dungeon;I[I)I
theorem q_96_0 {d : Nat} {r : Nat} (hk : zkn SH r = 20) (hw : zln SH r = 4) (v1 : Int) (M : ZM) : Q d 96 0 [zR 1, zI v1, zR r] [] M = if v1 = 99 then (Cb (E d 20 [zR 1, zI (M r 0), zI (M r 1)] M) (fun v h => zrun (zevl d) 96 71 [zR 1, zI v1, zR r] (v.toList ++ []) h)) else (if v1 = 107 then (Cb (E d 23 [zR 1, zI (M r 0), zI (M r 1)] M) (fun v h => zrun (zevl d) 96 93 [zR 1, zI v1, zR r] (v.toList ++ []) h)) else (if v1 = 108 then (Cb (E d 22 [zR 1, zI (M r 0), zI (M r 1)] M) (fun v h => zrun (zevl d) 96 82 [zR 1, zI v1, zR r] (v.toList ++ []) h)) else (if v1 = 114 then (Cb (E d 17 [zR 1, zI (M r 0), zI (M r 1), zI (M r 2), zI (M r 3)] M) (fun v h => zrun (zevl d) 96 60 [zR 1, zI v1, zR r] (v.toList ++ []) h)) else (Cb (E d 24 [zR 1, zI (M r 0)] M) (fun v h => zrun (zevl d) 96 101 [zR 1, zI v1, zR r] (v.toList ++ []) h))))) := by
  refine Eq.trans (s_iloadn f_96_0 rfl) ?_
  refine Eq.trans (w_96_1) ?_
  refine ite_cg (fun h2 => ?_) (fun h2 => ?_)
  · refine Eq.trans (s_aloadn f_96_61 rfl) ?_
    refine Eq.trans (s_aloadn f_96_62 rfl) ?_
    refine Eq.trans (s_iconst f_96_63) ?_
    refine Eq.trans (s_iald f_96_64 hk hw) (Eq.trans (if_pos (by decide)) ?_)
    refine Eq.trans (s_aloadn f_96_65 rfl) ?_
    refine Eq.trans (s_iconst f_96_66) ?_
    refine Eq.trans (s_iald f_96_67 hk hw) (Eq.trans (if_pos (by decide)) ?_)
    exact s_call [zR 1, zI (M r 0), zI (M r 1)] [] f_96_68 rfl c_96_78 rfl rfl (Nat.le_of_ble_eq_true rfl) (by show (zkn SH 1 == zown 20) = true; rw [show zkn SH 1 = 1 from kn_1]; rfl)
  refine ite_cg (fun h3 => ?_) (fun h3 => ?_)
  · refine Eq.trans (s_aloadn f_96_83 rfl) ?_
    refine Eq.trans (s_aloadn f_96_84 rfl) ?_
    refine Eq.trans (s_iconst f_96_85) ?_
    refine Eq.trans (s_iald f_96_86 hk hw) (Eq.trans (if_pos (by decide)) ?_)
    refine Eq.trans (s_aloadn f_96_87 rfl) ?_
    refine Eq.trans (s_iconst f_96_88) ?_
    refine Eq.trans (s_iald f_96_89 hk hw) (Eq.trans (if_pos (by decide)) ?_)
    exact s_call [zR 1, zI (M r 0), zI (M r 1)] [] f_96_90 rfl c_96_85 rfl rfl (Nat.le_of_ble_eq_true rfl) (by show (zkn SH 1 == zown 23) = true; rw [show zkn SH 1 = 1 from kn_1]; rfl)
  refine ite_cg (fun h4 => ?_) (fun h4 => ?_)
  · refine Eq.trans (s_aloadn f_96_72 rfl) ?_
    refine Eq.trans (s_aloadn f_96_73 rfl) ?_
    refine Eq.trans (s_iconst f_96_74) ?_
    refine Eq.trans (s_iald f_96_75 hk hw) (Eq.trans (if_pos (by decide)) ?_)
    refine Eq.trans (s_aloadn f_96_76 rfl) ?_
    refine Eq.trans (s_iconst f_96_77) ?_
    refine Eq.trans (s_iald f_96_78 hk hw) (Eq.trans (if_pos (by decide)) ?_)
    exact s_call [zR 1, zI (M r 0), zI (M r 1)] [] f_96_79 rfl c_96_82 rfl rfl (Nat.le_of_ble_eq_true rfl) (by show (zkn SH 1 == zown 22) = true; rw [show zkn SH 1 = 1 from kn_1]; rfl)
  refine ite_cg (fun h5 => ?_) (fun h5 => ?_)
  · refine Eq.trans (s_aloadn f_96_44 rfl) ?_
    refine Eq.trans (s_aloadn f_96_45 rfl) ?_
    refine Eq.trans (s_iconst f_96_46) ?_
    refine Eq.trans (s_iald f_96_47 hk hw) (Eq.trans (if_pos (by decide)) ?_)
    refine Eq.trans (s_aloadn f_96_48 rfl) ?_
    refine Eq.trans (s_iconst f_96_49) ?_
    refine Eq.trans (s_iald f_96_50 hk hw) (Eq.trans (if_pos (by decide)) ?_)
    refine Eq.trans (s_aloadn f_96_51 rfl) ?_
    refine Eq.trans (s_iconst f_96_52) ?_
    refine Eq.trans (s_iald f_96_53 hk hw) (Eq.trans (if_pos (by decide)) ?_)
    refine Eq.trans (s_aloadn f_96_54 rfl) ?_
    refine Eq.trans (s_iconst f_96_55) ?_
    refine Eq.trans (s_iald f_96_56 hk hw) (Eq.trans (if_pos (by decide)) ?_)
    exact s_call [zR 1, zI (M r 0), zI (M r 1), zI (M r 2), zI (M r 3)] [] f_96_57 rfl c_96_72 rfl rfl (Nat.le_of_ble_eq_true rfl) (by show (zkn SH 1 == zown 17) = true; rw [show zkn SH 1 = 1 from kn_1]; rfl)
  refine Eq.trans (s_aloadn f_96_94 rfl) ?_
  refine Eq.trans (s_aloadn f_96_95 rfl) ?_
  refine Eq.trans (s_iconst f_96_96) ?_
  refine Eq.trans (s_iald f_96_97 hk hw) (Eq.trans (if_pos (by decide)) ?_)
  exact s_call [zR 1, zI (M r 0)] [] f_96_98 rfl c_96_88 rfl rfl (Nat.le_of_ble_eq_true rfl) (by show (zkn SH 1 == zown 24) = true; rw [show zkn SH 1 = 1 from kn_1]; rfl)
theorem q_96_60 {d : Nat} {r : Nat} (hk : zkn SH r = 20) (hw : zln SH r = 4) (v1 s0 : Int) (M : ZM) : Q d 96 60 [zR 1, zI v1, zR r] [zI s0] M = Rt (some (zI s0)) M := by
  exact s_iret f_96_60 t_96
theorem q_96_71 {d : Nat} {r : Nat} (hk : zkn SH r = 20) (hw : zln SH r = 4) (v1 s0 : Int) (M : ZM) : Q d 96 71 [zR 1, zI v1, zR r] [zI s0] M = Rt (some (zI s0)) M := by
  exact s_iret f_96_71 t_96
theorem q_96_82 {d : Nat} {r : Nat} (hk : zkn SH r = 20) (hw : zln SH r = 4) (v1 s0 : Int) (M : ZM) : Q d 96 82 [zR 1, zI v1, zR r] [zI s0] M = Rt (some (zI s0)) M := by
  exact s_iret f_96_82 t_96
theorem q_96_93 {d : Nat} {r : Nat} (hk : zkn SH r = 20) (hw : zln SH r = 4) (v1 s0 : Int) (M : ZM) : Q d 96 93 [zR 1, zI v1, zR r] [zI s0] M = Rt (some (zI s0)) M := by
  exact s_iret f_96_93 t_96
theorem q_96_101 {d : Nat} {r : Nat} (hk : zkn SH r = 20) (hw : zln SH r = 4) (v1 s0 : Int) (M : ZM) : Q d 96 101 [zR 1, zI v1, zR r] [zI s0] M = Rt (some (zI s0)) M := by
  exact s_iret f_96_101 t_96
theorem en_96 {d : Nat} {r : Nat} (v1 : Int) (M : ZM) : E (d + 1) 96 [zR 1, zI v1, zR r] M = Q d 96 0 [zR 1, zI v1, zR r] [] M := e_in (Nat.le_of_ble_eq_true rfl)
-- DungeonBuilder$Walks.explore(LDungeonBuilder$Dungeon;)V
theorem q_98_0 {d : Nat} (M : ZM) : Q d 98 0 [zR 125, zR 1, zU] [] M = Cb (E d 254 [zR 130, zI 0] M) (fun v h => zrun (zevl d) 98 8 [zR 125, zR 1, zU] (v.toList ++ []) h) := by
  refine Eq.trans (s_aloadn f_98_0 rfl) ?_
  refine Eq.trans (s_getR f_98_1 g_98_24 (by decide) kn_125 rf_125_4) ?_
  refine Eq.trans (s_iconst f_98_4) ?_
  exact s_call [zR 130, zI 0] [] f_98_5 rfl c_98_34 rfl rfl (Nat.le_of_ble_eq_true rfl) rfl
theorem q_98_8 {d : Nat} (M : ZM) : Q d 98 8 [zR 125, zR 1, zU] [] M = Cb (E d 254 [zR 131, zI (-1)] M) (fun v h => zrun (zevl d) 98 16 [zR 125, zR 1, zU] (v.toList ++ []) h) := by
  refine Eq.trans (s_aloadn f_98_8 rfl) ?_
  refine Eq.trans (s_getR f_98_9 g_98_27 (by decide) kn_125 rf_125_5) ?_
  refine Eq.trans (s_iconst f_98_12) ?_
  exact s_call [zR 131, zI (-1)] [] f_98_13 rfl c_98_34 rfl rfl (Nat.le_of_ble_eq_true rfl) rfl
theorem q_98_16 {d : Nat} (M : ZM) : Q d 98 16 [zR 125, zR 1, zU] [] M = if ((zwr M 125 6 0) 1 8) ≠ 0 then (Cb (E d 100 [zR 125, zR 1, zI ((zwr M 125 6 0) 1 10), zI (-1)] (zwr M 125 6 0)) (fun v h => zrun (zevl d) 98 39 [zR 125, zR 1, zU] (v.toList ++ []) h)) else (Rt none (zwr M 125 6 0)) := by
  refine Eq.trans (s_aloadn f_98_16 rfl) ?_
  refine Eq.trans (s_iconst f_98_17) ?_
  refine Eq.trans (s_putI f_98_18 g_98_30 (by decide) kn_125) ?_
  refine Eq.trans (s_aloadn f_98_21 rfl) ?_
  refine Eq.trans (s_getI f_98_22 g_98_40 (by decide) kn_1) ?_
  refine Eq.trans (s_if (P := ((zwr M 125 6 0) 1 8) ≠ 0) 29 f_98_25 (by decide) rfl) (ite_cg (fun h1 => ?_) (fun h1 => ?_))
  · refine Eq.trans (s_aloadn f_98_29 rfl) ?_
    refine Eq.trans (s_aloadn f_98_30 rfl) ?_
    refine Eq.trans (s_aloadn f_98_31 rfl) ?_
    refine Eq.trans (s_getI f_98_32 g_98_44 (by decide) kn_1) ?_
    refine Eq.trans (s_iconst f_98_35) ?_
    exact s_call [zR 125, zR 1, zI ((zwr M 125 6 0) 1 10), zI (-1)] [] f_98_36 rfl c_98_47 rfl rfl (Nat.le_of_ble_eq_true rfl) (by show (zkn SH 125 == zown 100) = true; rw [show zkn SH 125 = 8 from kn_125]; rfl)
  · exact s_vret f_98_28 t_98
theorem q_98_39 {d : Nat} (M : ZM) : Q d 98 39 [zR 125, zR 1, zU] [] M = Q d 98 41 [zR 125, zR 1, zI 0] [] M := by
  refine Eq.trans (s_iconst f_98_39) ?_
  refine Eq.trans (s_istoren f_98_40 rfl) ?_
  rfl
theorem q_98_41 {d : Nat} (v2 : Int) (M : ZM) : Q d 98 41 [zR 125, zR 1, zI v2] [] M = if 768 ≤ v2 then (Rt none M) else (if (M 125 6) ≤ v2 then (Rt none M) else (Cb (E d 99 [zR 125, zR 1, zI v2] M) (fun v h => zrun (zevl d) 98 62 [zR 125, zR 1, zI v2] (v.toList ++ []) h))) := by
  refine Eq.trans (s_iloadn f_98_41 rfl) ?_
  refine Eq.trans (s_sipush f_98_42) ?_
  refine Eq.trans (s_icmp (P := 768 ≤ v2) 68 f_98_45 (by decide) rfl) (ite_cg (fun h1 => ?_) (fun h1 => ?_))
  · exact s_vret f_98_68 t_98
  · refine Eq.trans (s_iloadn f_98_48 rfl) ?_
    refine Eq.trans (s_aloadn f_98_49 rfl) ?_
    refine Eq.trans (s_getI f_98_50 g_98_30 (by decide) kn_125) ?_
    refine Eq.trans (s_icmp (P := (M 125 6) ≤ v2) 68 f_98_53 (by decide) rfl) (ite_cg (fun h2 => ?_) (fun h2 => ?_))
    · exact s_vret f_98_68 t_98
    · refine Eq.trans (s_aloadn f_98_56 rfl) ?_
      refine Eq.trans (s_aloadn f_98_57 rfl) ?_
      refine Eq.trans (s_iloadn f_98_58 rfl) ?_
      exact s_call [zR 125, zR 1, zI v2] [] f_98_59 rfl c_98_51 rfl rfl (Nat.le_of_ble_eq_true rfl) (by show (zkn SH 125 == zown 99) = true; rw [show zkn SH 125 = 8 from kn_125]; rfl)
theorem q_98_62 {d : Nat} (v2 : Int) (M : ZM) : Q d 98 62 [zR 125, zR 1, zI v2] [] M = Q d 98 41 [zR 125, zR 1, zI (zw (v2 + 1))] [] M := by
  refine Eq.trans (s_iinc f_98_62 rfl rfl) ?_
  refine Eq.trans (s_goto 41 f_98_65 (by decide)) ?_
  rfl
theorem en_98 {d : Nat} (M : ZM) : E (d + 1) 98 [zR 125, zR 1] M = Q d 98 0 [zR 125, zR 1, zU] [] M := e_in (Nat.le_of_ble_eq_true rfl)
-- DungeonBuilder$Walks.goOn(LDungeonBuilder$Dungeon;I)V
theorem q_99_0 {d : Nat} (v2 : Int) (M : ZM) : Q d 99 0 [zR 125, zR 1, zI v2, zU, zU] [] M = Q d 99 2 [zR 125, zR 1, zI v2, zI 0, zU] [] M := by
  refine Eq.trans (s_iconst f_99_0) ?_
  refine Eq.trans (s_istoren f_99_1 rfl) ?_
  rfl
theorem q_99_2 {d : Nat} (v2 v3 : Int) (z4 : ZV) (M : ZM) : Q d 99 2 [zR 125, zR 1, zI v2, zI v3, z4] [] M = if (M 1 8) ≤ v3 then (Rt none M) else (if 0 ≤ v2 ∧ v2 < 768 then Cb (E d 30 [zR 1, zI (M 126 v2), zI v3] M) (fun v h => zrun (zevl d) 99 21 [zR 125, zR 1, zI v2, zI v3, z4] (v.toList ++ []) h) else none) := by
  refine Eq.trans (s_iloadn f_99_2 rfl) ?_
  refine Eq.trans (s_aloadn f_99_3 rfl) ?_
  refine Eq.trans (s_getI f_99_4 g_99_40 (by decide) kn_1) ?_
  refine Eq.trans (s_icmp (P := (M 1 8) ≤ v3) 57 f_99_7 (by decide) rfl) (ite_cg (fun h1 => ?_) (fun h1 => ?_))
  · exact s_vret f_99_57 t_99
  · refine Eq.trans (s_aloadn f_99_10 rfl) ?_
    refine Eq.trans (s_aloadn f_99_11 rfl) ?_
    refine Eq.trans (s_getR f_99_12 g_99_11 (by decide) kn_125 rf_125_0) ?_
    refine Eq.trans (s_iloadn f_99_15 rfl) ?_
    refine Eq.trans (s_iald f_99_16 kn_126 ln_126) (gd_cg fun h2 => ?_)
    refine Eq.trans (s_iloadn f_99_17 rfl) ?_
    exact s_call [zR 1, zI (M 126 v2), zI v3] [] f_99_18 rfl c_99_55 rfl rfl (Nat.le_of_ble_eq_true rfl) (by show (zkn SH 1 == zown 30) = true; rw [show zkn SH 1 = 1 from kn_1]; rfl)
theorem q_99_21 {d : Nat} (v2 v3 s0 : Int) (z4 : ZV) (M : ZM) : Q d 99 21 [zR 125, zR 1, zI v2, zI v3, z4] [zI s0] M = if s0 = (-1) then (Q d 99 51 [zR 125, zR 1, zI v2, zI v3, zI s0] [] M) else (if 0 ≤ v2 ∧ v2 < 768 then Cb (E d 35 [zR 1, zI s0, zI (M 127 v2)] M) (fun v h => zrun (zevl d) 99 41 [zR 125, zR 1, zI v2, zI v3, zI s0] (v.toList ++ []) h) else none) := by
  refine Eq.trans (s_istore f_99_21 rfl) ?_
  refine Eq.trans (s_iload f_99_23 rfl) ?_
  refine Eq.trans (s_iconst f_99_25) ?_
  refine Eq.trans (s_icmp (P := s0 = (-1)) 51 f_99_26 (by decide) rfl) (ite_cg (fun h1 => ?_) (fun h1 => ?_))
  · rfl
  · refine Eq.trans (s_aloadn f_99_29 rfl) ?_
    refine Eq.trans (s_iload f_99_30 rfl) ?_
    refine Eq.trans (s_aloadn f_99_32 rfl) ?_
    refine Eq.trans (s_getR f_99_33 g_99_15 (by decide) kn_125 rf_125_1) ?_
    refine Eq.trans (s_iloadn f_99_36 rfl) ?_
    refine Eq.trans (s_iald f_99_37 kn_127 ln_127) (gd_cg fun h2 => ?_)
    exact s_call [zR 1, zI s0, zI (M 127 v2)] [] f_99_38 rfl c_99_59 rfl rfl (Nat.le_of_ble_eq_true rfl) (by show (zkn SH 1 == zown 35) = true; rw [show zkn SH 1 = 1 from kn_1]; rfl)
theorem q_99_41 {d : Nat} (v2 v3 v4 s0 : Int) (M : ZM) : Q d 99 41 [zR 125, zR 1, zI v2, zI v3, zI v4] [zI s0] M = if s0 = 0 then (Q d 99 51 [zR 125, zR 1, zI v2, zI v3, zI v4] [] M) else (Cb (E d 100 [zR 125, zR 1, zI v3, zI v2] M) (fun v h => zrun (zevl d) 99 51 [zR 125, zR 1, zI v2, zI v3, zI v4] (v.toList ++ []) h)) := by
  refine Eq.trans (s_if (P := s0 = 0) 51 f_99_41 (by decide) rfl) (ite_cg (fun h1 => ?_) (fun h1 => ?_))
  · rfl
  · refine Eq.trans (s_aloadn f_99_44 rfl) ?_
    refine Eq.trans (s_aloadn f_99_45 rfl) ?_
    refine Eq.trans (s_iloadn f_99_46 rfl) ?_
    refine Eq.trans (s_iloadn f_99_47 rfl) ?_
    exact s_call [zR 125, zR 1, zI v3, zI v2] [] f_99_48 rfl c_99_47 rfl rfl (Nat.le_of_ble_eq_true rfl) (by show (zkn SH 125 == zown 100) = true; rw [show zkn SH 125 = 8 from kn_125]; rfl)
theorem q_99_51 {d : Nat} (v2 v3 v4 : Int) (M : ZM) : Q d 99 51 [zR 125, zR 1, zI v2, zI v3, zI v4] [] M = Q d 99 2 [zR 125, zR 1, zI v2, zI (zw (v3 + 1)), zI v4] [] M := by
  refine Eq.trans (s_iinc f_99_51 rfl rfl) ?_
  refine Eq.trans (s_goto 2 f_99_54 (by decide)) ?_
  rfl
theorem en_99 {d : Nat} (v2 : Int) (M : ZM) : E (d + 1) 99 [zR 125, zR 1, zI v2] M = Q d 99 0 [zR 125, zR 1, zI v2, zU, zU] [] M := e_in (Nat.le_of_ble_eq_true rfl)
-- DungeonBuilder$Walks.addLine(LDungeonBuilder$Dungeon;II)V
theorem q_100_0 {d : Nat} (v2 v3 : Int) (M : ZM) : Q d 100 0 [zR 125, zR 1, zI v2, zI v3, zU, zU] [] M = Cb (E d 36 [zR 1, zI v2] M) (fun v h => zrun (zevl d) 100 5 [zR 125, zR 1, zI v2, zI v3, zU, zU] (v.toList ++ []) h) := by
  refine Eq.trans (s_aloadn f_100_0 rfl) ?_
  refine Eq.trans (s_iloadn f_100_1 rfl) ?_
  exact s_call [zR 1, zI v2] [] f_100_2 rfl c_100_63 rfl rfl (Nat.le_of_ble_eq_true rfl) (by show (zkn SH 1 == zown 36) = true; rw [show zkn SH 1 = 1 from kn_1]; rfl)
theorem q_100_5 {d : Nat} (v2 v3 s0 : Int) (M : ZM) : Q d 100 5 [zR 125, zR 1, zI v2, zI v3, zU, zU] [zI s0] M = if v3 ≠ (-1) then (if 0 ≤ v3 ∧ v3 < 768 then Q d 100 20 [zR 125, zR 1, zI v2, zI v3, zU, zU] [zI (M 127 v3), zI s0] M else none) else (Q d 100 20 [zR 125, zR 1, zI v2, zI v3, zU, zU] [zI 0, zI s0] M) := by
  refine Eq.trans (s_iloadn f_100_5 rfl) ?_
  refine Eq.trans (s_iconst f_100_6) ?_
  refine Eq.trans (s_icmp (P := v3 ≠ (-1)) 14 f_100_7 (by decide) rfl) (ite_cg (fun h1 => ?_) (fun h1 => ?_))
  · refine Eq.trans (s_aloadn f_100_14 rfl) ?_
    refine Eq.trans (s_getR f_100_15 g_100_15 (by decide) kn_125 rf_125_1) ?_
    refine Eq.trans (s_iloadn f_100_18 rfl) ?_
    refine Eq.trans (s_iald f_100_19 kn_127 ln_127) (gd_cg fun h2 => ?_)
    rfl
  · refine Eq.trans (s_iconst f_100_10) ?_
    refine Eq.trans (s_goto 20 f_100_11 (by decide)) ?_
    rfl
theorem q_100_20 {d : Nat} (v2 v3 s0 s1 : Int) (M : ZM) : Q d 100 20 [zR 125, zR 1, zI v2, zI v3, zU, zU] [zI s1, zI s0] M = if 0 ≤ (zw ((zw (v2 * 64)) + (zor s0 s1))) ∧ (zw ((zw (v2 * 64)) + (zor s0 s1))) < 768 then if (M 130 (zw ((zw (v2 * 64)) + (zor s0 s1)))) ≠ 0 then (Rt none M) else (if (M 125 6) < 768 then (if 0 ≤ (zw ((zw (v2 * 64)) + (zor s0 s1))) ∧ (zw ((zw (v2 * 64)) + (zor s0 s1))) < 768 then if 0 ≤ ((zwr M 130 (zw ((zw (v2 * 64)) + (zor s0 s1))) 1) 125 6) ∧ ((zwr M 130 (zw ((zw (v2 * 64)) + (zor s0 s1))) 1) 125 6) < 768 then if 0 ≤ ((zwr (zwr M 130 (zw ((zw (v2 * 64)) + (zor s0 s1))) 1) 126 ((zwr M 130 (zw ((zw (v2 * 64)) + (zor s0 s1))) 1) 125 6) v2) 125 6) ∧ ((zwr (zwr M 130 (zw ((zw (v2 * 64)) + (zor s0 s1))) 1) 126 ((zwr M 130 (zw ((zw (v2 * 64)) + (zor s0 s1))) 1) 125 6) v2) 125 6) < 768 then if 0 ≤ ((zwr (zwr (zwr M 130 (zw ((zw (v2 * 64)) + (zor s0 s1))) 1) 126 ((zwr M 130 (zw ((zw (v2 * 64)) + (zor s0 s1))) 1) 125 6) v2) 127 ((zwr (zwr M 130 (zw ((zw (v2 * 64)) + (zor s0 s1))) 1) 126 ((zwr M 130 (zw ((zw (v2 * 64)) + (zor s0 s1))) 1) 125 6) v2) 125 6) (zor s0 s1)) 125 6) ∧ ((zwr (zwr (zwr M 130 (zw ((zw (v2 * 64)) + (zor s0 s1))) 1) 126 ((zwr M 130 (zw ((zw (v2 * 64)) + (zor s0 s1))) 1) 125 6) v2) 127 ((zwr (zwr M 130 (zw ((zw (v2 * 64)) + (zor s0 s1))) 1) 126 ((zwr M 130 (zw ((zw (v2 * 64)) + (zor s0 s1))) 1) 125 6) v2) 125 6) (zor s0 s1)) 125 6) < 768 then if v3 ≠ (-1) then (if 0 ≤ v3 ∧ v3 < 768 then Q d 100 117 [zR 125, zR 1, zI v2, zI v3, zI (zor s0 s1), zI (zw ((zw (v2 * 64)) + (zor s0 s1)))] [zI (zw (((zwr (zwr (zwr (zwr M 130 (zw ((zw (v2 * 64)) + (zor s0 s1))) 1) 126 ((zwr M 130 (zw ((zw (v2 * 64)) + (zor s0 s1))) 1) 125 6) v2) 127 ((zwr (zwr M 130 (zw ((zw (v2 * 64)) + (zor s0 s1))) 1) 126 ((zwr M 130 (zw ((zw (v2 * 64)) + (zor s0 s1))) 1) 125 6) v2) 125 6) (zor s0 s1)) 128 ((zwr (zwr (zwr M 130 (zw ((zw (v2 * 64)) + (zor s0 s1))) 1) 126 ((zwr M 130 (zw ((zw (v2 * 64)) + (zor s0 s1))) 1) 125 6) v2) 127 ((zwr (zwr M 130 (zw ((zw (v2 * 64)) + (zor s0 s1))) 1) 126 ((zwr M 130 (zw ((zw (v2 * 64)) + (zor s0 s1))) 1) 125 6) v2) 125 6) (zor s0 s1)) 125 6) v3) 129 v3) + 1)), zI ((zwr (zwr (zwr (zwr M 130 (zw ((zw (v2 * 64)) + (zor s0 s1))) 1) 126 ((zwr M 130 (zw ((zw (v2 * 64)) + (zor s0 s1))) 1) 125 6) v2) 127 ((zwr (zwr M 130 (zw ((zw (v2 * 64)) + (zor s0 s1))) 1) 126 ((zwr M 130 (zw ((zw (v2 * 64)) + (zor s0 s1))) 1) 125 6) v2) 125 6) (zor s0 s1)) 128 ((zwr (zwr (zwr M 130 (zw ((zw (v2 * 64)) + (zor s0 s1))) 1) 126 ((zwr M 130 (zw ((zw (v2 * 64)) + (zor s0 s1))) 1) 125 6) v2) 127 ((zwr (zwr M 130 (zw ((zw (v2 * 64)) + (zor s0 s1))) 1) 126 ((zwr M 130 (zw ((zw (v2 * 64)) + (zor s0 s1))) 1) 125 6) v2) 125 6) (zor s0 s1)) 125 6) v3) 125 6), zR 129] (zwr (zwr (zwr (zwr M 130 (zw ((zw (v2 * 64)) + (zor s0 s1))) 1) 126 ((zwr M 130 (zw ((zw (v2 * 64)) + (zor s0 s1))) 1) 125 6) v2) 127 ((zwr (zwr M 130 (zw ((zw (v2 * 64)) + (zor s0 s1))) 1) 126 ((zwr M 130 (zw ((zw (v2 * 64)) + (zor s0 s1))) 1) 125 6) v2) 125 6) (zor s0 s1)) 128 ((zwr (zwr (zwr M 130 (zw ((zw (v2 * 64)) + (zor s0 s1))) 1) 126 ((zwr M 130 (zw ((zw (v2 * 64)) + (zor s0 s1))) 1) 125 6) v2) 127 ((zwr (zwr M 130 (zw ((zw (v2 * 64)) + (zor s0 s1))) 1) 126 ((zwr M 130 (zw ((zw (v2 * 64)) + (zor s0 s1))) 1) 125 6) v2) 125 6) (zor s0 s1)) 125 6) v3) else none) else (Q d 100 117 [zR 125, zR 1, zI v2, zI v3, zI (zor s0 s1), zI (zw ((zw (v2 * 64)) + (zor s0 s1)))] [zI 0, zI ((zwr (zwr (zwr (zwr M 130 (zw ((zw (v2 * 64)) + (zor s0 s1))) 1) 126 ((zwr M 130 (zw ((zw (v2 * 64)) + (zor s0 s1))) 1) 125 6) v2) 127 ((zwr (zwr M 130 (zw ((zw (v2 * 64)) + (zor s0 s1))) 1) 126 ((zwr M 130 (zw ((zw (v2 * 64)) + (zor s0 s1))) 1) 125 6) v2) 125 6) (zor s0 s1)) 128 ((zwr (zwr (zwr M 130 (zw ((zw (v2 * 64)) + (zor s0 s1))) 1) 126 ((zwr M 130 (zw ((zw (v2 * 64)) + (zor s0 s1))) 1) 125 6) v2) 127 ((zwr (zwr M 130 (zw ((zw (v2 * 64)) + (zor s0 s1))) 1) 126 ((zwr M 130 (zw ((zw (v2 * 64)) + (zor s0 s1))) 1) 125 6) v2) 125 6) (zor s0 s1)) 125 6) v3) 125 6), zR 129] (zwr (zwr (zwr (zwr M 130 (zw ((zw (v2 * 64)) + (zor s0 s1))) 1) 126 ((zwr M 130 (zw ((zw (v2 * 64)) + (zor s0 s1))) 1) 125 6) v2) 127 ((zwr (zwr M 130 (zw ((zw (v2 * 64)) + (zor s0 s1))) 1) 126 ((zwr M 130 (zw ((zw (v2 * 64)) + (zor s0 s1))) 1) 125 6) v2) 125 6) (zor s0 s1)) 128 ((zwr (zwr (zwr M 130 (zw ((zw (v2 * 64)) + (zor s0 s1))) 1) 126 ((zwr M 130 (zw ((zw (v2 * 64)) + (zor s0 s1))) 1) 125 6) v2) 127 ((zwr (zwr M 130 (zw ((zw (v2 * 64)) + (zor s0 s1))) 1) 126 ((zwr M 130 (zw ((zw (v2 * 64)) + (zor s0 s1))) 1) 125 6) v2) 125 6) (zor s0 s1)) 125 6) v3)) else none else none else none else none) else (Rt none M)) else none := by
  refine Eq.trans (s_ior f_100_20) ?_
  refine Eq.trans (s_istore f_100_21 rfl) ?_
  refine Eq.trans (s_iloadn f_100_23 rfl) ?_
  refine Eq.trans (s_bipush f_100_24) ?_
  refine Eq.trans (s_imul f_100_26) ?_
  refine Eq.trans (s_iload f_100_27 rfl) ?_
  refine Eq.trans (s_iadd f_100_29) ?_
  refine Eq.trans (s_istore f_100_30 rfl) ?_
  refine Eq.trans (s_aloadn f_100_32 rfl) ?_
  refine Eq.trans (s_getR f_100_33 g_100_24 (by decide) kn_125 rf_125_4) ?_
  refine Eq.trans (s_iload f_100_36 rfl) ?_
  refine Eq.trans (s_iald f_100_38 kn_130 ln_130) (gd_cg fun h1 => ?_)
  refine Eq.trans (s_if (P := (M 130 (zw ((zw (v2 * 64)) + (zor s0 s1)))) ≠ 0) 52 f_100_39 (by decide) rfl) (ite_cg (fun h2 => ?_) (fun h2 => ?_))
  · exact s_vret f_100_52 t_100
  · refine Eq.trans (s_aloadn f_100_42 rfl) ?_
    refine Eq.trans (s_getI f_100_43 g_100_30 (by decide) kn_125) ?_
    refine Eq.trans (s_sipush f_100_46) ?_
    refine Eq.trans (s_icmp (P := (M 125 6) < 768) 53 f_100_49 (by decide) rfl) (ite_cg (fun h3 => ?_) (fun h3 => ?_))
    · refine Eq.trans (s_aloadn f_100_53 rfl) ?_
      refine Eq.trans (s_getR f_100_54 g_100_24 (by decide) kn_125 rf_125_4) ?_
      refine Eq.trans (s_iload f_100_57 rfl) ?_
      refine Eq.trans (s_iconst f_100_59) ?_
      refine Eq.trans (s_iast f_100_60 kn_130 ln_130) (gd_cg fun h4 => ?_)
      refine Eq.trans (s_aloadn f_100_61 rfl) ?_
      refine Eq.trans (s_getR f_100_62 g_100_11 (by decide) kn_125 rf_125_0) ?_
      refine Eq.trans (s_aloadn f_100_65 rfl) ?_
      refine Eq.trans (s_getI f_100_66 g_100_30 (by decide) kn_125) ?_
      refine Eq.trans (s_iloadn f_100_69 rfl) ?_
      refine Eq.trans (s_iast f_100_70 kn_126 ln_126) (gd_cg fun h5 => ?_)
      refine Eq.trans (s_aloadn f_100_71 rfl) ?_
      refine Eq.trans (s_getR f_100_72 g_100_15 (by decide) kn_125 rf_125_1) ?_
      refine Eq.trans (s_aloadn f_100_75 rfl) ?_
      refine Eq.trans (s_getI f_100_76 g_100_30 (by decide) kn_125) ?_
      refine Eq.trans (s_iload f_100_79 rfl) ?_
      refine Eq.trans (s_iast f_100_81 kn_127 ln_127) (gd_cg fun h6 => ?_)
      refine Eq.trans (s_aloadn f_100_82 rfl) ?_
      refine Eq.trans (s_getR f_100_83 g_100_18 (by decide) kn_125 rf_125_2) ?_
      refine Eq.trans (s_aloadn f_100_86 rfl) ?_
      refine Eq.trans (s_getI f_100_87 g_100_30 (by decide) kn_125) ?_
      refine Eq.trans (s_iloadn f_100_90 rfl) ?_
      refine Eq.trans (s_iast f_100_91 kn_128 ln_128) (gd_cg fun h7 => ?_)
      refine Eq.trans (s_aloadn f_100_92 rfl) ?_
      refine Eq.trans (s_getR f_100_93 g_100_21 (by decide) kn_125 rf_125_3) ?_
      refine Eq.trans (s_aloadn f_100_96 rfl) ?_
      refine Eq.trans (s_getI f_100_97 g_100_30 (by decide) kn_125) ?_
      refine Eq.trans (s_iloadn f_100_100 rfl) ?_
      refine Eq.trans (s_iconst f_100_101) ?_
      refine Eq.trans (s_icmp (P := v3 ≠ (-1)) 109 f_100_102 (by decide) rfl) (ite_cg (fun h8 => ?_) (fun h8 => ?_))
      · refine Eq.trans (s_aloadn f_100_109 rfl) ?_
        refine Eq.trans (s_getR f_100_110 g_100_21 (by decide) kn_125 rf_125_3) ?_
        refine Eq.trans (s_iloadn f_100_113 rfl) ?_
        refine Eq.trans (s_iald f_100_114 kn_129 ln_129) (gd_cg fun h9 => ?_)
        refine Eq.trans (s_iconst f_100_115) ?_
        refine Eq.trans (s_iadd f_100_116) ?_
        rfl
      · refine Eq.trans (s_iconst f_100_105) ?_
        refine Eq.trans (s_goto 117 f_100_106 (by decide)) ?_
        rfl
    · exact s_vret f_100_52 t_100
theorem q_100_117 {d : Nat} (v2 v3 v4 v5 s1 s2 : Int) (M : ZM) : Q d 100 117 [zR 125, zR 1, zI v2, zI v3, zI v4, zI v5] [zI s2, zI s1, zR 129] M = if 0 ≤ s1 ∧ s1 < 768 then if 0 ≤ v2 ∧ v2 < 12 then if ((zwr M 129 s1 s2) 131 v2) ≠ (-1) then (Rt none (zwr (zwr M 129 s1 s2) 125 6 (zw (((zwr M 129 s1 s2) 125 6) + 1)))) else (if 0 ≤ v2 ∧ v2 < 12 then Rt none (zwr (zwr (zwr M 129 s1 s2) 131 v2 ((zwr M 129 s1 s2) 125 6)) 125 6 (zw (((zwr (zwr M 129 s1 s2) 131 v2 ((zwr M 129 s1 s2) 125 6)) 125 6) + 1))) else none) else none else none := by
  refine Eq.trans (s_iast f_100_117 kn_129 ln_129) (gd_cg fun h1 => ?_)
  refine Eq.trans (s_aloadn f_100_118 rfl) ?_
  refine Eq.trans (s_getR f_100_119 g_100_27 (by decide) kn_125 rf_125_5) ?_
  refine Eq.trans (s_iloadn f_100_122 rfl) ?_
  refine Eq.trans (s_iald f_100_123 kn_131 ln_131) (gd_cg fun h2 => ?_)
  refine Eq.trans (s_iconst f_100_124) ?_
  refine Eq.trans (s_icmp (P := ((zwr M 129 s1 s2) 131 v2) ≠ (-1)) 138 f_100_125 (by decide) rfl) (ite_cg (fun h3 => ?_) (fun h3 => ?_))
  · refine Eq.trans (s_aloadn f_100_138 rfl) ?_
    refine Eq.trans (s_dup f_100_139 rfl) ?_
    refine Eq.trans (s_getI f_100_140 g_100_30 (by decide) kn_125) ?_
    refine Eq.trans (s_iconst f_100_143) ?_
    refine Eq.trans (s_iadd f_100_144) ?_
    refine Eq.trans (s_putI f_100_145 g_100_30 (by decide) kn_125) ?_
    exact s_vret f_100_148 t_100
  · refine Eq.trans (s_aloadn f_100_128 rfl) ?_
    refine Eq.trans (s_getR f_100_129 g_100_27 (by decide) kn_125 rf_125_5) ?_
    refine Eq.trans (s_iloadn f_100_132 rfl) ?_
    refine Eq.trans (s_aloadn f_100_133 rfl) ?_
    refine Eq.trans (s_getI f_100_134 g_100_30 (by decide) kn_125) ?_
    refine Eq.trans (s_iast f_100_137 kn_131 ln_131) (gd_cg fun h4 => ?_)
    refine Eq.trans (s_aloadn f_100_138 rfl) ?_
    refine Eq.trans (s_dup f_100_139 rfl) ?_
    refine Eq.trans (s_getI f_100_140 g_100_30 (by decide) kn_125) ?_
    refine Eq.trans (s_iconst f_100_143) ?_
    refine Eq.trans (s_iadd f_100_144) ?_
    refine Eq.trans (s_putI f_100_145 g_100_30 (by decide) kn_125) ?_
    exact s_vret f_100_148 t_100
theorem en_100 {d : Nat} (v2 v3 : Int) (M : ZM) : E (d + 1) 100 [zR 125, zR 1, zI v2, zI v3] M = Q d 100 0 [zR 125, zR 1, zI v2, zI v3, zU, zU] [] M := e_in (Nat.le_of_ble_eq_true rfl)
-- DungeonBuilder$Walks.lengthTo(I)I
theorem q_101_0 {d : Nat} (v1 : Int) (M : ZM) : Q d 101 0 [zR 125, zI v1] [] M = if 0 ≤ v1 ∧ v1 < 12 then if (M 131 v1) ≠ (-1) then (if 0 ≤ v1 ∧ v1 < 12 then if 0 ≤ (M 131 v1) ∧ (M 131 v1) < 768 then Rt (some (zI (M 129 (M 131 v1)))) M else none else none) else (Rt (some (zI (-1))) M) else none := by
  refine Eq.trans (s_aloadn f_101_0 rfl) ?_
  refine Eq.trans (s_getR f_101_1 g_101_27 (by decide) kn_125 rf_125_5) ?_
  refine Eq.trans (s_iloadn f_101_4 rfl) ?_
  refine Eq.trans (s_iald f_101_5 kn_131 ln_131) (gd_cg fun h1 => ?_)
  refine Eq.trans (s_iconst f_101_6) ?_
  refine Eq.trans (s_icmp (P := (M 131 v1) ≠ (-1)) 14 f_101_7 (by decide) rfl) (ite_cg (fun h2 => ?_) (fun h2 => ?_))
  · refine Eq.trans (s_aloadn f_101_14 rfl) ?_
    refine Eq.trans (s_getR f_101_15 g_101_21 (by decide) kn_125 rf_125_3) ?_
    refine Eq.trans (s_aloadn f_101_18 rfl) ?_
    refine Eq.trans (s_getR f_101_19 g_101_27 (by decide) kn_125 rf_125_5) ?_
    refine Eq.trans (s_iloadn f_101_22 rfl) ?_
    refine Eq.trans (s_iald f_101_23 kn_131 ln_131) (gd_cg fun h3 => ?_)
    refine Eq.trans (s_iald f_101_24 kn_129 ln_129) (gd_cg fun h4 => ?_)
    exact s_iret f_101_25 t_101
  · refine Eq.trans (s_iconst f_101_10) ?_
    refine Eq.trans (s_goto 25 f_101_11 (by decide)) ?_
    exact s_iret f_101_25 t_101
theorem en_101 {d : Nat} (v1 : Int) (M : ZM) : E (d + 1) 101 [zR 125, zI v1] M = Q d 101 0 [zR 125, zI v1] [] M := e_in (Nat.le_of_ble_eq_true rfl)
-- DungeonBuilder$Walks.roomOnWay(II)I
theorem q_102_0 {d : Nat} (v1 v2 : Int) (M : ZM) : Q d 102 0 [zR 125, zI v1, zI v2, zU, zU] [] M = if 0 ≤ v1 ∧ v1 < 12 then Cb (E d 101 [zR 125, zI v1] M) (fun v h => zrun (zevl d) 102 12 [zR 125, zI v1, zI v2, zI (M 131 v1), zU] (v.toList ++ []) h) else none := by
  refine Eq.trans (s_aloadn f_102_0 rfl) ?_
  refine Eq.trans (s_getR f_102_1 g_102_27 (by decide) kn_125 rf_125_5) ?_
  refine Eq.trans (s_iloadn f_102_4 rfl) ?_
  refine Eq.trans (s_iald f_102_5 kn_131 ln_131) (gd_cg fun h1 => ?_)
  refine Eq.trans (s_istoren f_102_6 rfl) ?_
  refine Eq.trans (s_aloadn f_102_7 rfl) ?_
  refine Eq.trans (s_iloadn f_102_8 rfl) ?_
  exact s_call [zR 125, zI v1] [] f_102_9 rfl c_102_67 rfl rfl (Nat.le_of_ble_eq_true rfl) (by show (zkn SH 125 == zown 101) = true; rw [show zkn SH 125 = 8 from kn_125]; rfl)
theorem q_102_12 {d : Nat} (v1 v2 v3 s0 : Int) (M : ZM) : Q d 102 12 [zR 125, zI v1, zI v2, zI v3, zU] [zI s0] M = Q d 102 14 [zR 125, zI v1, zI v2, zI v3, zI s0] [] M := by
  refine Eq.trans (s_istore f_102_12 rfl) ?_
  rfl
theorem q_102_14 {d : Nat} (v1 v2 v3 v4 : Int) (M : ZM) : Q d 102 14 [zR 125, zI v1, zI v2, zI v3, zI v4] [] M = if v4 ≤ v2 then (if v3 ≠ (-1) then (if 0 ≤ v3 ∧ v3 < 768 then Rt (some (zI (M 126 v3))) M else none) else (Rt (some (zI (-104))) M)) else (if v3 = (-1) then (if v3 ≠ (-1) then (if 0 ≤ v3 ∧ v3 < 768 then Rt (some (zI (M 126 v3))) M else none) else (Rt (some (zI (-104))) M)) else (if 0 ≤ v3 ∧ v3 < 768 then Q d 102 14 [zR 125, zI v1, zI v2, zI (M 128 v3), zI (zw (v4 + (-1)))] [] M else none)) := by
  refine Eq.trans (s_iload f_102_14 rfl) ?_
  refine Eq.trans (s_iloadn f_102_16 rfl) ?_
  refine Eq.trans (s_icmp (P := v4 ≤ v2) 38 f_102_17 (by decide) rfl) (ite_cg (fun h1 => ?_) (fun h1 => ?_))
  · refine Eq.trans (s_iloadn f_102_38 rfl) ?_
    refine Eq.trans (s_iconst f_102_39) ?_
    refine Eq.trans (s_icmp (P := v3 ≠ (-1)) 48 f_102_40 (by decide) rfl) (ite_cg (fun h2 => ?_) (fun h2 => ?_))
    · refine Eq.trans (s_aloadn f_102_48 rfl) ?_
      refine Eq.trans (s_getR f_102_49 g_102_11 (by decide) kn_125 rf_125_0) ?_
      refine Eq.trans (s_iloadn f_102_52 rfl) ?_
      refine Eq.trans (s_iald f_102_53 kn_126 ln_126) (gd_cg fun h3 => ?_)
      exact s_iret f_102_54 t_102
    · refine Eq.trans (s_bipush f_102_43) ?_
      refine Eq.trans (s_goto 54 f_102_45 (by decide)) ?_
      exact s_iret f_102_54 t_102
  · refine Eq.trans (s_iloadn f_102_20 rfl) ?_
    refine Eq.trans (s_iconst f_102_21) ?_
    refine Eq.trans (s_icmp (P := v3 = (-1)) 38 f_102_22 (by decide) rfl) (ite_cg (fun h4 => ?_) (fun h4 => ?_))
    · refine Eq.trans (s_iloadn f_102_38 rfl) ?_
      refine Eq.trans (s_iconst f_102_39) ?_
      refine Eq.trans (s_icmp (P := v3 ≠ (-1)) 48 f_102_40 (by decide) rfl) (ite_cg (fun h5 => ?_) (fun h5 => ?_))
      · refine Eq.trans (s_aloadn f_102_48 rfl) ?_
        refine Eq.trans (s_getR f_102_49 g_102_11 (by decide) kn_125 rf_125_0) ?_
        refine Eq.trans (s_iloadn f_102_52 rfl) ?_
        refine Eq.trans (s_iald f_102_53 kn_126 ln_126) (gd_cg fun h6 => ?_)
        exact s_iret f_102_54 t_102
      · refine Eq.trans (s_bipush f_102_43) ?_
        refine Eq.trans (s_goto 54 f_102_45 (by decide)) ?_
        exact s_iret f_102_54 t_102
    · refine Eq.trans (s_aloadn f_102_25 rfl) ?_
      refine Eq.trans (s_getR f_102_26 g_102_18 (by decide) kn_125 rf_125_2) ?_
      refine Eq.trans (s_iloadn f_102_29 rfl) ?_
      refine Eq.trans (s_iald f_102_30 kn_128 ln_128) (gd_cg fun h7 => ?_)
      refine Eq.trans (s_istoren f_102_31 rfl) ?_
      refine Eq.trans (s_iinc f_102_32 rfl rfl) ?_
      refine Eq.trans (s_goto 14 f_102_35 (by decide)) ?_
      rfl
theorem en_102 {d : Nat} (v1 v2 : Int) (M : ZM) : E (d + 1) 102 [zR 125, zI v1, zI v2] M = Q d 102 0 [zR 125, zI v1, zI v2, zU, zU] [] M := e_in (Nat.le_of_ble_eq_true rfl)
-- java/lang/Integer.bitCount(I)I
theorem q_249_0 {d : Nat} (v0 : Int) (M : ZM) : Q d 249 0 [zI v0] [] M = Rt (some (zI (zand (zw ((zw ((zand (zw ((zw ((zand (zw (v0 - (zand (zushr v0 1) 1431655765))) 858993459) + (zand (zushr (zw (v0 - (zand (zushr v0 1) 1431655765))) 2) 858993459))) + (zushr (zw ((zand (zw (v0 - (zand (zushr v0 1) 1431655765))) 858993459) + (zand (zushr (zw (v0 - (zand (zushr v0 1) 1431655765))) 2) 858993459))) 4))) 252645135) + (zushr (zand (zw ((zw ((zand (zw (v0 - (zand (zushr v0 1) 1431655765))) 858993459) + (zand (zushr (zw (v0 - (zand (zushr v0 1) 1431655765))) 2) 858993459))) + (zushr (zw ((zand (zw (v0 - (zand (zushr v0 1) 1431655765))) 858993459) + (zand (zushr (zw (v0 - (zand (zushr v0 1) 1431655765))) 2) 858993459))) 4))) 252645135) 8))) + (zushr (zw ((zand (zw ((zw ((zand (zw (v0 - (zand (zushr v0 1) 1431655765))) 858993459) + (zand (zushr (zw (v0 - (zand (zushr v0 1) 1431655765))) 2) 858993459))) + (zushr (zw ((zand (zw (v0 - (zand (zushr v0 1) 1431655765))) 858993459) + (zand (zushr (zw (v0 - (zand (zushr v0 1) 1431655765))) 2) 858993459))) 4))) 252645135) + (zushr (zand (zw ((zw ((zand (zw (v0 - (zand (zushr v0 1) 1431655765))) 858993459) + (zand (zushr (zw (v0 - (zand (zushr v0 1) 1431655765))) 2) 858993459))) + (zushr (zw ((zand (zw (v0 - (zand (zushr v0 1) 1431655765))) 858993459) + (zand (zushr (zw (v0 - (zand (zushr v0 1) 1431655765))) 2) 858993459))) 4))) 252645135) 8))) 16))) 63))) M := by
  refine Eq.trans (s_iloadn f_249_0 rfl) ?_
  refine Eq.trans (s_iloadn f_249_1 rfl) ?_
  refine Eq.trans (s_iconst f_249_2) ?_
  refine Eq.trans (s_iushr f_249_3) ?_
  refine Eq.trans (s_ldcw f_249_4 k_249_265) ?_
  refine Eq.trans (s_iand f_249_7) ?_
  refine Eq.trans (s_isub f_249_8) ?_
  refine Eq.trans (s_istoren f_249_9 rfl) ?_
  refine Eq.trans (s_iloadn f_249_10 rfl) ?_
  refine Eq.trans (s_ldcw f_249_11 k_249_266) ?_
  refine Eq.trans (s_iand f_249_14) ?_
  refine Eq.trans (s_iloadn f_249_15 rfl) ?_
  refine Eq.trans (s_iconst f_249_16) ?_
  refine Eq.trans (s_iushr f_249_17) ?_
  refine Eq.trans (s_ldcw f_249_18 k_249_266) ?_
  refine Eq.trans (s_iand f_249_21) ?_
  refine Eq.trans (s_iadd f_249_22) ?_
  refine Eq.trans (s_istoren f_249_23 rfl) ?_
  refine Eq.trans (s_iloadn f_249_24 rfl) ?_
  refine Eq.trans (s_iloadn f_249_25 rfl) ?_
  refine Eq.trans (s_iconst f_249_26) ?_
  refine Eq.trans (s_iushr f_249_27) ?_
  refine Eq.trans (s_iadd f_249_28) ?_
  refine Eq.trans (s_ldcw f_249_29 k_249_267) ?_
  refine Eq.trans (s_iand f_249_32) ?_
  refine Eq.trans (s_istoren f_249_33 rfl) ?_
  refine Eq.trans (s_iloadn f_249_34 rfl) ?_
  refine Eq.trans (s_iloadn f_249_35 rfl) ?_
  refine Eq.trans (s_bipush f_249_36) ?_
  refine Eq.trans (s_iushr f_249_38) ?_
  refine Eq.trans (s_iadd f_249_39) ?_
  refine Eq.trans (s_istoren f_249_40 rfl) ?_
  refine Eq.trans (s_iloadn f_249_41 rfl) ?_
  refine Eq.trans (s_iloadn f_249_42 rfl) ?_
  refine Eq.trans (s_bipush f_249_43) ?_
  refine Eq.trans (s_iushr f_249_45) ?_
  refine Eq.trans (s_iadd f_249_46) ?_
  refine Eq.trans (s_istoren f_249_47 rfl) ?_
  refine Eq.trans (s_iloadn f_249_48 rfl) ?_
  refine Eq.trans (s_bipush f_249_49) ?_
  refine Eq.trans (s_iand f_249_51) ?_
  exact s_iret f_249_52 t_249
theorem en_249 {d : Nat} (v0 : Int) (M : ZM) : E (d + 1) 249 [zI v0] M = Q d 249 0 [zI v0] [] M := e_in (Nat.le_of_ble_eq_true rfl)
-- java/lang/Integer.signum(I)I
theorem q_250_0 {d : Nat} (v0 : Int) (M : ZM) : Q d 250 0 [zI v0] [] M = Rt (some (zI (zor (zshr v0 31) (zushr (zw (-v0)) 31)))) M := by
  refine Eq.trans (s_iloadn f_250_0 rfl) ?_
  refine Eq.trans (s_bipush f_250_1) ?_
  refine Eq.trans (s_ishr f_250_3) ?_
  refine Eq.trans (s_iloadn f_250_4 rfl) ?_
  refine Eq.trans (s_ineg f_250_5) ?_
  refine Eq.trans (s_bipush f_250_6) ?_
  refine Eq.trans (s_iushr f_250_8) ?_
  refine Eq.trans (s_ior f_250_9) ?_
  exact s_iret f_250_10 t_250
theorem en_250 {d : Nat} (v0 : Int) (M : ZM) : E (d + 1) 250 [zI v0] M = Q d 250 0 [zI v0] [] M := e_in (Nat.le_of_ble_eq_true rfl)
-- java/lang/Math.abs(I)I
theorem q_251_0 {d : Nat} (v0 : Int) (M : ZM) : Q d 251 0 [zI v0] [] M = if 0 ≤ v0 then (Rt (some (zI v0)) M) else (Rt (some (zI (zw (-v0)))) M) := by
  refine Eq.trans (s_iloadn f_251_0 rfl) ?_
  refine Eq.trans (s_if (P := 0 ≤ v0) 9 f_251_1 (by decide) rfl) (ite_cg (fun h1 => ?_) (fun h1 => ?_))
  · refine Eq.trans (s_iloadn f_251_9 rfl) ?_
    exact s_iret f_251_10 t_251
  · refine Eq.trans (s_iloadn f_251_4 rfl) ?_
    refine Eq.trans (s_ineg f_251_5) ?_
    refine Eq.trans (s_goto 10 f_251_6 (by decide)) ?_
    exact s_iret f_251_10 t_251
theorem en_251 {d : Nat} (v0 : Int) (M : ZM) : E (d + 1) 251 [zI v0] M = Q d 251 0 [zI v0] [] M := e_in (Nat.le_of_ble_eq_true rfl)
-- java/lang/Math.max(II)I
theorem q_252_0 {d : Nat} (v0 v1 : Int) (M : ZM) : Q d 252 0 [zI v0, zI v1] [] M = if v0 < v1 then (Rt (some (zI v1)) M) else (Rt (some (zI v0)) M) := by
  refine Eq.trans (s_iloadn f_252_0 rfl) ?_
  refine Eq.trans (s_iloadn f_252_1 rfl) ?_
  refine Eq.trans (s_icmp (P := v0 < v1) 9 f_252_2 (by decide) rfl) (ite_cg (fun h1 => ?_) (fun h1 => ?_))
  · refine Eq.trans (s_iloadn f_252_9 rfl) ?_
    exact s_iret f_252_10 t_252
  · refine Eq.trans (s_iloadn f_252_5 rfl) ?_
    refine Eq.trans (s_goto 10 f_252_6 (by decide)) ?_
    exact s_iret f_252_10 t_252
theorem en_252 {d : Nat} (v0 v1 : Int) (M : ZM) : E (d + 1) 252 [zI v0, zI v1] M = Q d 252 0 [zI v0, zI v1] [] M := e_in (Nat.le_of_ble_eq_true rfl)
-- java/lang/Math.min(II)I
theorem q_253_0 {d : Nat} (v0 v1 : Int) (M : ZM) : Q d 253 0 [zI v0, zI v1] [] M = if v1 < v0 then (Rt (some (zI v1)) M) else (Rt (some (zI v0)) M) := by
  refine Eq.trans (s_iloadn f_253_0 rfl) ?_
  refine Eq.trans (s_iloadn f_253_1 rfl) ?_
  refine Eq.trans (s_icmp (P := v1 < v0) 9 f_253_2 (by decide) rfl) (ite_cg (fun h1 => ?_) (fun h1 => ?_))
  · refine Eq.trans (s_iloadn f_253_9 rfl) ?_
    exact s_iret f_253_10 t_253
  · refine Eq.trans (s_iloadn f_253_5 rfl) ?_
    refine Eq.trans (s_goto 10 f_253_6 (by decide)) ?_
    exact s_iret f_253_10 t_253
theorem en_253 {d : Nat} (v0 v1 : Int) (M : ZM) : E (d + 1) 253 [zI v0, zI v1] M = Q d 253 0 [zI v0, zI v1] [] M := e_in (Nat.le_of_ble_eq_true rfl)
-- java/util/Arrays.fill([II)V
theorem q_254_0 {d : Nat} {r w : Nat} (hk : zkn SH r = 20) (hw : zln SH r = w) (v1 : Int) (M : ZM) : Q d 254 0 [zR r, zI v1, zU, zU] [] M = Q d 254 5 [zR r, zI v1, zI 0, zI (w : Int)] [] M := by
  refine Eq.trans (s_iconst f_254_0) ?_
  refine Eq.trans (s_istoren f_254_1 rfl) ?_
  refine Eq.trans (s_aloadn f_254_2 rfl) ?_
  refine Eq.trans (s_alen f_254_3 hk hw) ?_
  refine Eq.trans (s_istoren f_254_4 rfl) ?_
  rfl
theorem q_254_5 {d : Nat} {r w : Nat} (hk : zkn SH r = 20) (hw : zln SH r = w) (v1 v2 v3 : Int) (M : ZM) : Q d 254 5 [zR r, zI v1, zI v2, zI v3] [] M = if v3 ≤ v2 then (Rt none M) else (if 0 ≤ v2 ∧ v2 < (w : Int) then Q d 254 5 [zR r, zI v1, zI (zw (v2 + 1)), zI v3] [] (zwr M r v2 v1) else none) := by
  refine Eq.trans (s_iloadn f_254_5 rfl) ?_
  refine Eq.trans (s_iloadn f_254_6 rfl) ?_
  refine Eq.trans (s_icmp (P := v3 ≤ v2) 20 f_254_7 (by decide) rfl) (ite_cg (fun h1 => ?_) (fun h1 => ?_))
  · exact s_vret f_254_20 t_254
  · refine Eq.trans (s_aloadn f_254_10 rfl) ?_
    refine Eq.trans (s_iloadn f_254_11 rfl) ?_
    refine Eq.trans (s_iloadn f_254_12 rfl) ?_
    refine Eq.trans (s_iast f_254_13 hk hw) (gd_cg fun h2 => ?_)
    refine Eq.trans (s_iinc f_254_14 rfl rfl) ?_
    refine Eq.trans (s_goto 5 f_254_17 (by decide)) ?_
    rfl
theorem en_254 {d : Nat} {r : Nat} (v1 : Int) (M : ZM) : E (d + 1) 254 [zR r, zI v1] M = Q d 254 0 [zR r, zI v1, zU, zU] [] M := e_in (Nat.le_of_ble_eq_true rfl)
