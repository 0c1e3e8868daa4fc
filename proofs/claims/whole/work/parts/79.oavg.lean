/-! averageBits -/
section
variable {d : Nat} {M : ZM} {g : Int → Int}
theorem kl_303 : zKl.lookup (zky (zown 142) 303) = some (-9223372036854775808) := by decide +kernel
theorem kl_260 : zKl.lookup (zky (zown 244) 260) = some (-9223372036854775808) := by decide +kernel
theorem difs_rg (hw : WF g) {i : Int} (hi : 0 ≤ i ∧ i ≤ g 120) : -1200 ≤ sm (dif g) i ∧ sm (dif g) i ≤ 6000 := by
  have hR := wf_R hw
  have a := sN_mo (f := dif g) (h := fun _ => 500) i.toNat (fun r r0 r1 => (dif_rg hw (r := r) (by omega)).2)
  have b := sN_mo (f := fun _ => -100) (h := dif g) i.toNat (fun r r0 r1 => (dif_rg hw (r := r) (by omega)).1)
  rw [sN_c (b := 500) (fun _ => rfl)] at a
  rw [sN_c (b := -100) (fun _ => rfl)] at b
  unfold sm
  omega
/-- the class's bits of an average and the reference's -/
theorem avg_both (hw : WF g) (h : 0 < g 120) : ∃ (r : UInt64), FP.ddiv (FP.i2d (Int32.ofInt (sm (dif g) (g 120)))) (FP.i2d (Int32.ofInt (g 120))) = r ∧ znan r = some (zD r) ∧ (∀ d M, E (d + 1) 151 [zD r] M = Rt (some (zL r.toInt64)) M) ∧ ∀ d M, E (d + 2) 248 [zD r] M = Rt (some (zL r.toInt64)) M := by
  have hR := wf_R hw
  obtain ⟨s1, s2⟩ := dif_sum hw h
  generalize sm (dif g) (g 120) = sum at *
  generalize g 120 = n' at *
  obtain ⟨n, rfl⟩ := Int.eq_ofNat_of_zero_le hR.1
  rcases s1 with s1 | s1
  · rw [s1]
    have z := b_zero ⟨n, by omega⟩ (by show 0 < n; omega)
    refine ⟨0, z, by decide +kernel, fun d M => ?_, fun d M => m_bits (by decide +kernel)⟩
    rw [x_bitsOf0]
    exact congrArg (fun x => Rt (some (zL x)) M) (by decide +kernel)
  · obtain ⟨s, rfl⟩ := Int.eq_ofNat_of_zero_le (show 0 ≤ sum by omega)
    obtain ⟨K, c, hb, e⟩ := b_avg (s := s) (n := n) (by omega) (by omega)
    refine ⟨bY K c, e, b_znan hb, fun d M => x_bitsOf hb, fun d M => m_bits (by rw [b_val hb]; exact b_ne)⟩
theorem x_average (hw : WF g) (hd : dgr M 1 g) : ∃ M', E (d + 12) 142 [zR 0] M = Rt (some (zL (if g 120 = 0 then -9223372036854775808 else (FP.ddiv (FP.i2d (Int32.ofInt (sm (dif g) (g 120)))) (FP.i2d (Int32.ofInt (g 120)))).toInt64))) M' ∧ frr 109 137 M M' := by
  have hR := wf_R hw
  have en : E (d + 12) 142 [zR 0] M = Q (d + 11) 142 0 [zR 0, zU, zU] [] M := e_in (by show 1 ≤ zmax 142; decide +kernel)
  rw [en]
  have e7 : Q (d + 11) 142 0 [zR 0, zU, zU] [] M = Q (d + 11) 142 7 [zR 0, zU, zU] [zI (g 120)] M := by
    refine Eq.trans (s_aloadn f_142_0 rfl) ?_
    refine Eq.trans (s_getR f_142_1 g_142_12 (by decide) kn_0 rf_0_0) ?_
    refine Eq.trans (s_getI f_142_4 g_142_110 (by decide) kn_1) ?_
    show Q (d + 11) 142 7 [zR 0, zU, zU] [zI (M 1 8)] M = _
    rw [h1R hd]
  rw [e7]
  by_cases z : g 120 = 0
  · refine ⟨M, ?_, frr_r⟩
    rw [if_pos z]
    refine Eq.trans (s_if (P := g 120 ≠ 0) 14 f_142_7 (by decide) rfl) ?_
    rw [if_neg (fun q => q z)]
    refine Eq.trans (s_ldl f_142_10 kl_303) ?_
    exact s_lret f_142_13 t_142
  · obtain ⟨r, r1, r2, r3, -⟩ := avg_both hw (by omega)
    obtain ⟨M1, e1, f1, v1⟩ := x_survey (d := d + 6) hw hd
    have d1 : dgr M1 1 g := frr_d f1 (by decide) hd
    refine ⟨M1, ?_, frr_v f1 (by omega) (by omega)⟩
    rw [if_neg z, r1]
    refine Eq.trans (s_if (P := g 120 ≠ 0) 14 f_142_7 (by decide) rfl) ?_
    rw [if_pos z]
    refine Eq.trans (s_aloadn f_142_14 rfl) ?_
    refine Eq.trans (s_getR f_142_15 g_142_50 (by decide) kn_0 rf_0_6) ?_
    refine Eq.trans (s_aloadn f_142_18 rfl) ?_
    refine Eq.trans (s_getR f_142_19 g_142_12 (by decide) kn_0 rf_0_0) ?_
    refine Eq.trans (s_call [zR 120, zR 1] [] f_142_22 rfl c_142_249 rfl rfl (Nat.le_of_ble_eq_true rfl) (by show (zkn SH 120 == zown 43) = true; rw [show zkn SH 120 = 2 from kn_120]; rfl)) ?_
    rw [e1]
    show Q (d + 11) 142 25 [zR 0, zU, zU] [] M1 = _
    refine Eq.trans (s_iconst f_142_25) ?_
    refine Eq.trans (s_istoren (ls' := [zR 0, zI 0, zU]) f_142_26 rfl) ?_
    refine Eq.trans (s_iconst f_142_27) ?_
    refine Eq.trans (s_istoren (ls' := [zR 0, zI 0, zI 0]) f_142_28 rfl) ?_
    have head : ∀ s i : Int, Q (d + 11) 142 29 [zR 0, zI s, zI i] [] M1 = if g 120 ≤ i then Q (d + 11) 142 58 [zR 0, zI s, zI i] [] M1 else Q (d + 11) 142 40 [zR 0, zI s, zI i] [] M1 := by
      intro s i
      refine Eq.trans (s_iloadn f_142_29 rfl) ?_
      refine Eq.trans (s_aloadn f_142_30 rfl) ?_
      refine Eq.trans (s_getR f_142_31 g_142_12 (by decide) kn_0 rf_0_0) ?_
      refine Eq.trans (s_getI f_142_34 g_142_110 (by decide) kn_1) ?_
      show Q (d + 11) 142 37 [zR 0, zI s, zI i] [zI (M1 1 8), zI i] M1 = _
      rw [h1R d1]
      exact s_icmp (P := g 120 ≤ i) 58 f_142_37 (by decide) rfl
    refine lpi (fun i s => Q (d + 11) 142 29 [zR 0, zI s, zI i] [] M1) (fun o => o = Rt (some (zL r.toInt64)) M1) (g 120) (fun i s => s = sm (dif g) i) ?_ ?_ 0 0 (by omega) rfl
    · rintro i s i0 i1 rfl
      have rg := difs_rg hw (i := i) (by omega)
      have dr := dif_rg hw (r := i) ⟨i0, i1⟩
      refine Or.inr ⟨sm (dif g) (i + 1), ?_, rfl⟩
      rw [head, if_neg (by omega)]
      refine Eq.trans (s_iloadn f_142_40 rfl) ?_
      refine Eq.trans (s_aloadn f_142_41 rfl) ?_
      refine Eq.trans (s_getR f_142_42 g_142_50 (by decide) kn_0 rf_0_6) ?_
      refine Eq.trans (s_getR f_142_45 g_142_255 (by decide) kn_120 rf_120_1) ?_
      refine Eq.trans (s_iloadn f_142_48 rfl) ?_
      refine Eq.trans (s_iald f_142_49 kn_122 ln_122) ?_
      rw [if_pos (by omega), v1.2.1 i i0 i1]
      refine Eq.trans (s_iadd f_142_50) ?_
      rw [zw_id (by omega), ← sm_s i0]
      refine Eq.trans (s_istoren (ls' := [zR 0, zI (sm (dif g) (i + 1)), zI i]) f_142_51 rfl) ?_
      refine Eq.trans (s_iinc (x := i) (ls' := [zR 0, zI (sm (dif g) (i + 1)), zI (zw (i + 1))]) f_142_52 rfl rfl) ?_
      rw [zw_id (by omega)]
      exact s_goto 29 f_142_55 (by decide)
    · rintro s rfl
      rw [head, if_pos (Int.le_refl _)]
      refine Eq.trans (s_iloadn f_142_58 rfl) ?_
      refine Eq.trans (s_x (pc' := 60) (ls' := [zR 0, zI (sm (dif g) (g 120)), zI (g 120)]) (st' := [zD (FP.i2d (Int32.ofInt (sm (dif g) (g 120))))]) f_142_59 rfl rfl rfl) ?_
      refine Eq.trans (s_aloadn f_142_60 rfl) ?_
      refine Eq.trans (s_getR f_142_61 g_142_12 (by decide) kn_0 rf_0_0) ?_
      refine Eq.trans (s_getI f_142_64 g_142_110 (by decide) kn_1) ?_
      show Q (d + 11) 142 67 [zR 0, zI (sm (dif g) (g 120)), zI (g 120)] [zI (M1 1 8), zD (FP.i2d (Int32.ofInt (sm (dif g) (g 120))))] M1 = _
      rw [h1R d1]
      refine Eq.trans (s_x (pc' := 68) (ls' := [zR 0, zI (sm (dif g) (g 120)), zI (g 120)]) (st' := [zD (FP.i2d (Int32.ofInt (g 120))), zD (FP.i2d (Int32.ofInt (sm (dif g) (g 120))))]) f_142_67 rfl rfl rfl) ?_
      refine Eq.trans (s_dop FP.ddiv f_142_68 rfl rfl rfl r1 r2) ?_
      refine Eq.trans (s_call [zD r] [] f_142_69 rfl c_142_305 rfl rfl (Nat.le_of_ble_eq_true rfl) rfl) ?_
      rw [r3 (d + 10) M1]
      exact s_lret f_142_72 t_142
theorem m_average (hw : WF g) (hg : M 139 = g) : ∃ M', E (d + 12) 244 [zR 138] M = Rt (some (zL (if g 120 = 0 then -9223372036854775808 else (FP.ddiv (FP.i2d (Int32.ofInt (sm (dif g) (g 120)))) (FP.i2d (Int32.ofInt (g 120)))).toInt64))) M' ∧ fr1 145 M M' := by
  have hR := wf_R hw
  have en : E (d + 12) 244 [zR 138] M = Q (d + 11) 244 0 [zR 138, zU, zU] [] M := e_in (by show 1 ≤ zmax 244; decide +kernel)
  rw [en]
  have e7 : Q (d + 11) 244 0 [zR 138, zU, zU] [] M = Q (d + 11) 244 7 [zR 138, zU, zU] [zI (g 120)] M := by
    refine Eq.trans (s_aloadn f_244_0 rfl) ?_
    refine Eq.trans (s_getR f_244_1 g_244_7 (by decide) kn_138 rf_138_0) ?_
    refine Eq.trans (s_bipush f_244_4) ?_
    refine Eq.trans (s_iald f_244_6 kn_139 ln_139) ?_
    rw [if_pos (by decide), hg]
  rw [e7]
  by_cases z : g 120 = 0
  · refine ⟨M, ?_, fr1_r⟩
    rw [if_pos z]
    refine Eq.trans (s_if (P := g 120 ≠ 0) 14 f_244_7 (by decide) rfl) ?_
    rw [if_neg (fun q => q z)]
    refine Eq.trans (s_ldl f_244_10 kl_260) ?_
    exact s_lret f_244_13 t_244
  · obtain ⟨r, r1, r2, -, r3⟩ := avg_both hw (by omega)
    rw [if_neg z, r1]
    have st : Q (d + 11) 244 7 [zR 138, zU, zU] [zI (g 120)] M = Q (d + 11) 244 18 [zR 138, zI 0, zI 0] [] M := by
      refine Eq.trans (s_if (P := g 120 ≠ 0) 14 f_244_7 (by decide) rfl) ?_
      rw [if_pos z]
      refine Eq.trans (s_iconst f_244_14) ?_
      refine Eq.trans (s_istoren (ls' := [zR 138, zI 0, zU]) f_244_15 rfl) ?_
      refine Eq.trans (s_iconst f_244_16) ?_
      exact s_istoren (ls' := [zR 138, zI 0, zI 0]) f_244_17 rfl
    have head : ∀ (s i : Int) (N : ZM), N 139 = g → Q (d + 11) 244 18 [zR 138, zI s, zI i] [] N = if g 120 ≤ i then Q (d + 11) 244 43 [zR 138, zI s, zI i] [] N else Q (d + 11) 244 29 [zR 138, zI s, zI i] [] N := by
      intro s i N hN
      refine Eq.trans (s_iloadn f_244_18 rfl) ?_
      refine Eq.trans (s_aloadn f_244_19 rfl) ?_
      refine Eq.trans (s_getR f_244_20 g_244_7 (by decide) kn_138 rf_138_0) ?_
      refine Eq.trans (s_bipush f_244_23) ?_
      refine Eq.trans (s_iald f_244_25 kn_139 ln_139) ?_
      rw [if_pos (by decide), hN]
      exact s_icmp (P := g 120 ≤ i) 43 f_244_26 (by decide) rfl
    rw [st]
    refine lpi (fun i (s : ZM × Int) => Q (d + 11) 244 18 [zR 138, zI s.2, zI i] [] s.1) (fun o => ∃ M', o = Rt (some (zL r.toInt64)) M' ∧ fr1 145 M M') (g 120) (fun i s => fr1 145 M s.1 ∧ s.2 = sm (dif g) i) ?_ ?_ 0 (M, 0) (by omega) ⟨fr1_r, rfl⟩
    · rintro i ⟨N, s⟩ i0 i1 ⟨fN, hs⟩
      dsimp only at fN hs ⊢
      subst hs
      have gN : N 139 = g := (fN 139 (by decide)).trans hg
      have rg := difs_rg hw (i := i) (by omega)
      have dr := dif_rg hw (r := i) ⟨i0, i1⟩
      obtain ⟨N2, e2, f2⟩ := m_difficultyOf (d := d + 7) (M := N) (by rw [gN]; exact hw) (r := i) (by rw [gN]; exact ⟨i0, i1⟩)
      rw [gN] at e2
      refine Or.inr ⟨(N2, sm (dif g) (i + 1)), ?_, fr1_t fN f2, rfl⟩
      rw [head _ _ _ gN, if_neg (by omega)]
      refine Eq.trans (s_iloadn f_244_29 rfl) ?_
      refine Eq.trans (s_aloadn f_244_30 rfl) ?_
      refine Eq.trans (s_iloadn f_244_31 rfl) ?_
      refine Eq.trans (s_call [zR 138, zI i] [zI (sm (dif g) i)] f_244_32 rfl c_244_176 rfl rfl (Nat.le_of_ble_eq_true rfl) (by show (zkn SH 138 == zown 190) = true; rw [show zkn SH 138 = 10 from kn_138]; rfl)) ?_
      rw [e2]
      show Q (d + 11) 244 35 [zR 138, zI (sm (dif g) i), zI i] [zI (dif g i), zI (sm (dif g) i)] N2 = _
      refine Eq.trans (s_iadd f_244_35) ?_
      rw [zw_id (by omega), ← sm_s i0]
      refine Eq.trans (s_istoren (ls' := [zR 138, zI (sm (dif g) (i + 1)), zI i]) f_244_36 rfl) ?_
      refine Eq.trans (s_iinc (x := i) (ls' := [zR 138, zI (sm (dif g) (i + 1)), zI (zw (i + 1))]) f_244_37 rfl rfl) ?_
      rw [zw_id (by omega)]
      exact s_goto 18 f_244_40 (by decide)
    · rintro ⟨N, s⟩ ⟨fN, hs⟩
      dsimp only at fN hs ⊢
      subst hs
      have gN : N 139 = g := (fN 139 (by decide)).trans hg
      refine ⟨N, ?_, fN⟩
      rw [head _ _ _ gN, if_pos (Int.le_refl _)]
      refine Eq.trans (s_iloadn f_244_43 rfl) ?_
      refine Eq.trans (s_x (pc' := 45) (ls' := [zR 138, zI (sm (dif g) (g 120)), zI (g 120)]) (st' := [zD (FP.i2d (Int32.ofInt (sm (dif g) (g 120))))]) f_244_44 rfl rfl rfl) ?_
      refine Eq.trans (s_aloadn f_244_45 rfl) ?_
      refine Eq.trans (s_getR f_244_46 g_244_7 (by decide) kn_138 rf_138_0) ?_
      refine Eq.trans (s_bipush f_244_49) ?_
      refine Eq.trans (s_iald f_244_51 kn_139 ln_139) ?_
      rw [if_pos (by decide), gN]
      refine Eq.trans (s_x (pc' := 53) (ls' := [zR 138, zI (sm (dif g) (g 120)), zI (g 120)]) (st' := [zD (FP.i2d (Int32.ofInt (g 120))), zD (FP.i2d (Int32.ofInt (sm (dif g) (g 120))))]) f_244_52 rfl rfl rfl) ?_
      refine Eq.trans (s_dop FP.ddiv f_244_53 rfl rfl rfl r1 r2) ?_
      refine Eq.trans (s_call [zD r] [] f_244_54 rfl c_244_262 rfl rfl (Nat.le_of_ble_eq_true rfl) rfl) ?_
      rw [r3 (d + 9) N]
      exact s_lret f_244_57 t_244
theorem o_averageBits {S : Int → Int} (hr : RL S M) : uok (d + 12) 142 244 [] S M := by
  obtain ⟨M1, e1, f1⟩ := x_average (d := d) hr.2.1 hr.2.2.1
  have g1 : M1 139 = M 139 := f1 139 (by omega)
  obtain ⟨M2, e2, f2⟩ := m_average (d := d) (M := M1) hr.2.1 g1
  exact uok_q hr ⟨_, M1, M2, e1, f1, e2, fm_1 f2 (by omega)⟩
end
theorem zpure : zPure := zpure_of (fun S M h => o_averageBits (d := 48) h)
