/-! tension, drops, the way back; rooms, corridors between rooms, the entrance -/
section
variable {d : Nat} {M : ZM} {g : Int → Int}
theorem x_rise {i : Int} (hw : WF g) (s1 : srv M g) (h : 1 ≤ i ∧ i < vN g (-1) (-1) (-1)) : E (d + 1) 49 [zR 120, zI i] M = Rt (some (zI (dif g (vX g (-1) (-1) (-1) i) - dif g (vX g (-1) (-1) (-1) (i - 1))))) M := by
  have hR := wf_R hw
  have hN := vN_rg (wo := -1) (nk := -1) (nl := -1) hw
  have r1 := vX_rg (wo := -1) (nk := -1) (nl := -1) hw (i := i) (by omega)
  have r2 := vX_rg (wo := -1) (nk := -1) (nl := -1) hw (i := i - 1) (by omega)
  have d1 := dif_rg hw r1
  have d2 := dif_rg hw r2
  rw [en_49, q_49_0, if_pos (by omega), zw_id (x := i - 1) (by omega), s1.2.2.2 i (by omega) h.2, s1.2.2.2 (i - 1) (by omega) (by omega), if_pos (by omega), if_pos (by omega), if_pos (by omega), s1.2.1 _ r1.1 r1.2, s1.2.1 _ r2.1 r2.2, zw_id (by omega)]
theorem o_tension {i : Int} (hw : WF (M 139)) (hd : dgr M 1 (M 139)) : qok (d + 12) 139 241 [zI i] M := by
  refine qok_of (v := zI (if 1 ≤ i ∧ i < vN (M 139) (-1) (-1) (-1) then dif (M 139) (vX (M 139) (-1) (-1) (-1) i) - dif (M 139) (vX (M 139) (-1) (-1) (-1) (i - 1)) + 1000 else -101)) ?_ ?_
  · generalize M 139 = g at *
    obtain ⟨M1, e1, f1, s1⟩ := x_survey (d := d + 6) hw hd
    have hN := vN_rg (wo := -1) (nk := -1) (nl := -1) hw
    refine ⟨M1, ?_, frr_v f1 (by omega) (by omega)⟩
    rw [en_139, q_139_0, e1, Cb_V, q_139_11]
    by_cases h1 : i < 1
    · rw [if_pos h1, if_neg (by omega)]
    · rw [if_neg h1, x_hasVisit s1, Cb_I, q_139_24]
      by_cases h2 : i < vN g (-1) (-1) (-1)
      · have r1 := vX_rg (wo := -1) (nk := -1) (nl := -1) hw (i := i) (by omega)
        have r2 := vX_rg (wo := -1) (nk := -1) (nl := -1) hw (i := i - 1) (by omega)
        have d1 := dif_rg hw r1
        have d2 := dif_rg hw r2
        rw [if_pos (bI_n0.2 (by omega)), x_rise hw s1 (by omega), Cb_I, q_139_38, if_pos (by omega), zw_id (by omega)]
      · rw [if_neg (fun q => q (bI_0.2 (by omega))), if_neg (by omega)]
  · intro M1 f
    have g1 := fx_g f
    generalize M 139 = g at *
    obtain ⟨M2, e2, f2, s2⟩ := m_tell (d := d + 5) (M := M1) (by rw [g1]; exact hw)
    have hR := wf_R hw
    have hN := vN_rg (wo := -1) (nk := -1) (nl := -1) hw
    rw [g1] at s2
    have g2 := (fm_g f2).trans g1
    unfold mq
    rw [en_241, q_241_0, e2, Cb_V, q_241_4, m_in, Cb_I, q_241_15, s2.1, zw_id (by omega)]
    by_cases h : 1 ≤ i ∧ i < vN g (-1) (-1) (-1)
    · have r1 := vX_rg (wo := -1) (nk := -1) (nl := -1) hw (i := i) (by omega)
      have r2 := vX_rg (wo := -1) (nk := -1) (nl := -1) hw (i := i - 1) (by omega)
      have d1 := dif_rg hw r1
      have d2 := dif_rg hw r2
      obtain ⟨M3, e3, f3⟩ := m_difficultyOf (d := d + 7) (M := M2) (by rw [g2]; exact hw) (r := vX g (-1) (-1) (-1) i) (by rw [g2]; exact r1)
      have g3 : M3 139 = g := (f3 139 (by decide)).trans g2
      obtain ⟨M4, e4, f4⟩ := m_difficultyOf (d := d + 7) (M := M3) (by rw [g3]; exact hw) (r := vX g (-1) (-1) (-1) (i - 1)) (by rw [g3]; exact r2)
      refine ⟨M4, ?_, fm_t f2 (fm_1 (fr1_t f3 f4) (by omega))⟩
      rw [if_pos (bI_n0.2 (by omega)), if_pos (by omega), s2.2.1 i (by omega) h.2, e3, Cb_I, q_241_31, zw_id (x := i - 1) (by omega), if_pos (by omega), f3 146 (by decide), s2.2.1 (i - 1) (by omega) (by omega), e4, Cb_I, q_241_43, g2, g3, if_pos h, zw_id (x := dif g (vX g (-1) (-1) (-1) i) - dif g (vX g (-1) (-1) (-1) (i - 1))) (by omega), zw_id (by omega)]
    · exact ⟨M2, by rw [if_neg (fun q => q (bI_0.2 (by omega))), if_neg h], f2⟩
def drp (g : Int → Int) (i : Int) : Prop := 1 ≤ i ∧ dif g (vX g (-1) (-1) (-1) i) < dif g (vX g (-1) (-1) (-1) (i - 1))
noncomputable def drN (g : Int → Int) : Int := if 1 ≤ vN g (-1) (-1) (-1) then cn (drp g) (vN g (-1) (-1) (-1)) else 0
theorem cn_1 : cn (drp g) 1 = 0 := by
  have := cn_s (p := drp g) (n := 0) (by omega)
  rw [Int.zero_add, cn_0, bI_f (fun q => by unfold drp at q; omega)] at this
  omega
theorem o_drops (hw : WF (M 139)) (hd : dgr M 1 (M 139)) : qok (d + 12) 140 242 [] M := by
  refine qok_of (v := zI (drN (M 139))) ?_ ?_
  · generalize M 139 = g at *
    obtain ⟨M1, e1, f1, s1⟩ := x_survey (d := d + 6) hw hd
    have hN := vN_rg (wo := -1) (nk := -1) (nl := -1) hw
    refine ⟨M1, ?_, frr_v f1 (by omega) (by omega)⟩
    rw [en_140, q_140_0, e1, Cb_V, q_140_11]
    unfold drN
    by_cases h : 1 ≤ vN g (-1) (-1) (-1)
    · rw [if_pos h]
      have l := lpv1 (fun i a => Q (d + 11) 140 15 [zR 0, zI a, zI i] [] M1) (fun i => cn (drp g) i) (vN g (-1) (-1) (-1)) h (by
        intro i i0 i1
        have k := cn_le (p := drp g) (n := i) (by omega)
        rw [cn_s (by omega), q_140_15, s1.2.2.1, if_neg (by omega), x_rise hw s1 (by omega), Cb_I, q_140_34, zw_id (x := i + 1) (by omega)]
        by_cases q : dif g (vX g (-1) (-1) (-1) i) < dif g (vX g (-1) (-1) (-1) (i - 1))
        · rw [if_neg (by omega), bI_t ⟨i0, q⟩, zw_id (by omega)]
        · rw [if_pos (by omega), bI_f (fun z => q z.2), Int.add_zero])
      rw [cn_1] at l
      rw [l, q_140_15, s1.2.2.1, if_pos (Int.le_refl _)]
    · rw [if_neg h, q_140_15, s1.2.2.1, if_pos (by omega)]
  · intro M1 f
    have g1 := fx_g f
    generalize M 139 = g at *
    obtain ⟨M2, e2, f2, s2⟩ := m_tell (d := d + 5) (M := M1) (by rw [g1]; exact hw)
    have hR := wf_R hw
    have hN := vN_rg (wo := -1) (nk := -1) (nl := -1) hw
    rw [g1] at s2
    have g2 := (fm_g f2).trans g1
    unfold mq drN
    rw [en_242, q_242_0, e2, Cb_V, q_242_4]
    by_cases h : 1 ≤ vN g (-1) (-1) (-1)
    · rw [if_pos h]
      refine lpi (fun i (M3 : ZM) => Q (d + 11) 242 8 [zR 138, zI (cn (drp g) (i + 1)), zI (i + 1)] [] M3) (fun o => ∃ M', o = Rt (some (zI (cn (drp g) (vN g (-1) (-1) (-1))))) M' ∧ fm M1 M') (vN g (-1) (-1) (-1) - 1) (fun i M3 => fr1 145 M2 M3) ?_ ?_ 0 M2 (by omega) fr1_r |> fun z => ?_
      · rw [Int.zero_add, cn_1] at z
        exact z
      · intro i M3 i0 i1 f3
        have h38 : M3 138 = M2 138 := f3 138 (by decide)
        have h46 : M3 146 = M2 146 := f3 146 (by decide)
        have g3 : M3 139 = g := (f3 139 (by decide)).trans g2
        have r1 := vX_rg (wo := -1) (nk := -1) (nl := -1) hw (i := i + 1) (by omega)
        have r2 := vX_rg (wo := -1) (nk := -1) (nl := -1) hw (i := i + 1 - 1) (by omega)
        obtain ⟨M4, e4, f4⟩ := m_difficultyOf (d := d + 7) (M := M3) (by rw [g3]; exact hw) (r := vX g (-1) (-1) (-1) (i + 1)) (by rw [g3]; exact r1)
        have g4 : M4 139 = g := (f4 139 (by decide)).trans g3
        obtain ⟨M5, e5, f5⟩ := m_difficultyOf (d := d + 7) (M := M4) (by rw [g4]; exact hw) (r := vX g (-1) (-1) (-1) (i + 1 - 1)) (by rw [g4]; exact r2)
        have k := cn_le (p := drp g) (n := i + 1) (by omega)
        refine Or.inr ⟨M5, ?_, fr1_t f3 (fr1_t f4 f5)⟩
        rw [cn_s (n := i + 1) (by omega), q_242_8, h38, s2.1, if_neg (by omega), if_pos (by omega), h46, s2.2.1 (i + 1) (by omega) (by omega), e4, Cb_I, q_242_27, zw_id (x := i + 1 - 1) (by omega), if_pos (by omega), f4 146 (by decide), h46, s2.2.1 (i + 1 - 1) (by omega) (by omega), e5, Cb_I, q_242_39, g3, g4, zw_id (x := i + 1 + 1) (by omega)]
        by_cases q : dif g (vX g (-1) (-1) (-1) (i + 1)) < dif g (vX g (-1) (-1) (-1) (i + 1 - 1))
        · rw [if_neg (by omega), bI_t ⟨by omega, q⟩, zw_id (by omega)]
        · rw [if_pos (by omega), bI_f (fun z => q z.2), zw_id (by omega)]
      · intro M3 f3
        have h38 : M3 138 = M2 138 := f3 138 (by decide)
        refine ⟨M3, ?_, fm_t f2 (fm_1 f3 (by omega))⟩
        rw [q_242_8, h38, s2.1, if_pos (by omega), show vN g (-1) (-1) (-1) - 1 + 1 = vN g (-1) (-1) (-1) by omega]
    · rw [if_neg h, q_242_8, s2.1, if_pos (by omega)]
      exact ⟨M2, rfl, f2⟩
noncomputable def bkF (g : Int → Int) (i : Int) : Int := if 1 ≤ i then dep g (-1) (vX g (-1) (-1) (-1) (i - 1)) (vX g (-1) (-1) (-1) i) else 0
noncomputable def bkN (g : Int → Int) : Int := if 1 ≤ vN g (-1) (-1) (-1) then itz (bkF g) (vN g (-1) (-1) (-1)) else 0
theorem itz_1 : itz (bkF g) 1 = 0 := by
  have := itz_s (f := bkF g) (n := 0) (by omega)
  rw [Int.zero_add] at this
  rw [this]
  unfold bkF
  rw [if_neg (by omega)]
  rfl
theorem o_backtracking (hw : WF (M 139)) (hd : dgr M 1 (M 139)) : qok (d + 12) 141 243 [] M := by
  refine qok_of (v := zI (bkN (M 139))) ?_ ?_
  · generalize M 139 = g at *
    obtain ⟨M1, e1, f1, s1⟩ := x_survey (d := d + 6) hw hd
    have hR := wf_R hw
    have hN := vN_rg (wo := -1) (nk := -1) (nl := -1) hw
    have l : ∃ M', E (d + 11) 50 [zR 120, zR 1] M1 = Rt (some (zI (bkN g))) M' ∧ frr 109 137 M M' := by
      rw [en_50, q_50_0]
      unfold bkN
      by_cases h : 1 ≤ vN g (-1) (-1) (-1)
      · rw [if_pos h]
        refine lpi (fun i (M3 : ZM) => Q (d + 10) 50 4 [zR 120, zR 1, zI (itz (bkF g) (i + 1)), zI (i + 1)] [] M3) (fun o => ∃ M', o = Rt (some (zI (itz (bkF g) (vN g (-1) (-1) (-1))))) M' ∧ frr 109 137 M M') (vN g (-1) (-1) (-1) - 1) (fun i M3 => fr1 124 M1 M3) ?_ ?_ 0 M1 (by omega) fr1_r |> fun z => ?_
        · rw [Int.zero_add, itz_1] at z
          exact z
        · intro i M3 i0 i1 f3
          have h20 : M3 120 = M1 120 := f3 120 (by decide)
          have h23 : M3 123 = M1 123 := f3 123 (by decide)
          have r1 := vX_rg (wo := -1) (nk := -1) (nl := -1) hw (i := i + 1) (by omega)
          have r2 := vX_rg (wo := -1) (nk := -1) (nl := -1) hw (i := i + 1 - 1) (by omega)
          obtain ⟨M4, e4, f4, a4⟩ := x_measure (d := d + 8) (M := M3) (g := g) (r := 124) rfl rfl (by omega) hw (fr1_d f3 (by omega) (frr_d f1 (by omega) hd)) r2.1
          refine Or.inr ⟨M4, ?_, fr1_t f3 f4⟩
          rw [itz_s (n := i + 1) (by omega), q_50_4, h20, s1.2.2.1, if_neg (by omega), zw_id (x := i + 1 - 1) (by omega), if_pos (by omega), h23, s1.2.2.2 (i + 1 - 1) (by omega) (by omega), e4, Cb_V, q_50_28, if_pos (by omega), f4 123 (by decide), h23, s1.2.2.2 (i + 1) (by omega) (by omega), if_pos (by omega), a4 _ (by omega) (by omega), zw_id (x := i + 1 + 1) (by omega)]
          unfold bkF
          rw [if_pos (show 1 ≤ i + 1 by omega)]
        · intro M3 f3
          have h20 : M3 120 = M1 120 := f3 120 (by decide)
          refine ⟨M3, ?_, frr_t (frr_v f1 (by omega) (by omega)) (frr_1 f3 (by omega) (by omega))⟩
          rw [q_50_4, h20, s1.2.2.1, if_pos (by omega), show vN g (-1) (-1) (-1) - 1 + 1 = vN g (-1) (-1) (-1) by omega]
      · rw [if_neg h, q_50_4, s1.2.2.1, if_pos (by omega)]
        exact ⟨M1, rfl, frr_v f1 (by omega) (by omega)⟩
    obtain ⟨M2, e2, f2⟩ := l
    exact ⟨M2, by rw [en_141, q_141_0, e1, Cb_V, q_141_11, e2, Cb_I, q_141_22], f2⟩
  · intro M1 f
    have g1 := fx_g f
    generalize M 139 = g at *
    obtain ⟨M2, e2, f2, s2⟩ := m_tell (d := d + 5) (M := M1) (by rw [g1]; exact hw)
    have hR := wf_R hw
    have hN := vN_rg (wo := -1) (nk := -1) (nl := -1) hw
    rw [g1] at s2
    have g2 := (fm_g f2).trans g1
    unfold mq bkN
    rw [en_243, q_243_0, e2, Cb_V, q_243_4]
    by_cases h : 1 ≤ vN g (-1) (-1) (-1)
    · rw [if_pos h]
      refine lpi (fun i (M3 : ZM) => Q (d + 11) 243 8 [zR 138, zI (itz (bkF g) (i + 1)), zI (i + 1)] [] M3) (fun o => ∃ M', o = Rt (some (zI (itz (bkF g) (vN g (-1) (-1) (-1))))) M' ∧ fm M1 M') (vN g (-1) (-1) (-1) - 1) (fun i M3 => fr1 145 M2 M3) ?_ ?_ 0 M2 (by omega) fr1_r |> fun z => ?_
      · rw [Int.zero_add, itz_1] at z
        exact z
      · intro i M3 i0 i1 f3
        have h38 : M3 138 = M2 138 := f3 138 (by decide)
        have h46 : M3 146 = M2 146 := f3 146 (by decide)
        have g3 : M3 139 = g := (f3 139 (by decide)).trans g2
        have r1 := vX_rg (wo := -1) (nk := -1) (nl := -1) hw (i := i + 1) (by omega)
        have r2 := vX_rg (wo := -1) (nk := -1) (nl := -1) hw (i := i + 1 - 1) (by omega)
        obtain ⟨M4, e4, f4, a4⟩ := m_tellDepths (d := d + 9) (M := M3) (by rw [g3]; exact hw) (vX g (-1) (-1) (-1) (i + 1 - 1)) (-1) (by omega)
        rw [g3] at a4
        refine Or.inr ⟨M4, ?_, fr1_t f3 f4⟩
        rw [itz_s (n := i + 1) (by omega), q_243_8, h38, s2.1, if_neg (by omega), zw_id (x := i + 1 - 1) (by omega), if_pos (by omega), h46, s2.2.1 (i + 1 - 1) (by omega) (by omega), e4, Cb_V, q_243_29, if_pos (by omega), f4 146 (by decide), h46, s2.2.1 (i + 1) (by omega) (by omega), if_pos (by omega), a4 _ (by omega) (by omega), zw_id (x := i + 1 + 1) (by omega)]
        unfold bkF
        rw [if_pos (show 1 ≤ i + 1 by omega)]
      · intro M3 f3
        have h38 : M3 138 = M2 138 := f3 138 (by decide)
        refine ⟨M3, ?_, fm_t f2 (fm_1 f3 (by omega))⟩
        rw [q_243_8, h38, s2.1, if_pos (by omega), show vN g (-1) (-1) (-1) - 1 + 1 = vN g (-1) (-1) (-1) by omega]
    · rw [if_neg h, q_243_8, s2.1, if_pos (by omega)]
      exact ⟨M2, rfl, f2⟩
theorem o_room {r w : Int} (hw : WF (M 139)) (hd : dgr M 1 (M 139)) : qok (d + 12) 120 220 [zI r, zI w] M := by
  have hR := wf_R hw
  have hW := wf_W hw
  have done : ∀ v : Int, E (d + 12) 120 [zR 0, zI r, zI w] M = Rt (some (zI v)) M → E (d + 12) 220 [zR 138, zI r, zI w] M = Rt (some (zI v)) M → qok (d + 12) 120 220 [zI r, zI w] M := fun v h1 h2 => ⟨zI v, M, M, h1, frr_r, h2, fm_r⟩
  have ex : E (d + 12) 120 [zR 0, zI r, zI w] M = Q (d + 11) 120 8 [zR 0, zI r, zI w] [zI (bI (0 ≤ r ∧ r < M 139 120))] M := by rw [en_120, q_120_0, x_hasRoom hd, Cb_I]
  have em : E (d + 12) 220 [zR 138, zI r, zI w] M = Q (d + 11) 220 5 [zR 138, zI r, zI w] [zI (bI (0 ≤ r ∧ r < M 139 120))] M := by rw [en_220, q_220_0, m_isRoom _ hR, Cb_I]
  by_cases h : 0 ≤ r ∧ r < M 139 120
  · rw [bI_t h] at ex em
    rw [q_120_8, if_pos (by omega)] at ex
    rw [q_220_5, if_pos (by omega)] at em
    by_cases k0 : w = 0
    · subst k0
      rw [if_pos rfl, if_pos (by omega), h1x hd h] at ex
      rw [if_pos rfl, m_x (by omega), Cb_I, q_220_66] at em
      exact done _ ex em
    · rw [if_neg k0] at ex em
      by_cases k1 : w = 1
      · subst k1
        rw [if_pos rfl, if_pos (by omega), h1y hd h] at ex
        rw [if_pos rfl, m_y (by omega), Cb_I, q_220_66] at em
        exact done _ ex em
      · rw [if_neg k1] at ex em
        by_cases k2 : w = 2
        · subst k2
          rw [if_pos rfl, if_pos (by omega), h1w hd h] at ex
          rw [if_pos rfl, m_w (by omega), Cb_I, q_220_66] at em
          exact done _ ex em
        · rw [if_neg k2] at ex em
          by_cases k3 : w = 3
          · subst k3
            rw [if_pos rfl, if_pos (by omega), h1h hd h] at ex
            rw [if_pos rfl, m_h (by omega), Cb_I, q_220_66] at em
            exact done _ ex em
          · rw [if_neg k3] at ex em
            by_cases k4 : w = 4
            · subst k4
              rw [if_pos rfl, if_pos (by omega), h1k hd h, x_told, Cb_I, q_120_112] at ex
              rw [if_pos rfl, m_k (by omega), Cb_I, q_220_73, m_told, Cb_I, q_220_76] at em
              exact done _ ex em
            · rw [if_neg k4] at ex em
              by_cases k5 : w = 5
              · subst k5
                rw [if_pos rfl, x_corridorsOf hw hd, Cb_I, q_120_121] at ex
                rw [if_pos rfl, m_degreeOf hW, Cb_I, q_220_82] at em
                exact done _ ex em
              · rw [if_neg k5] at ex em
                by_cases k6 : w = 6
                · subst k6
                  rw [if_pos rfl, x_centerColumn hw hd h, Cb_I, q_120_130] at ex
                  rw [if_pos rfl, m_columnOf (by omega) (wf_r hw h), Cb_I, q_220_88] at em
                  exact done _ ex em
                · rw [if_neg k6] at ex em
                  by_cases k7 : w = 7
                  · subst k7
                    rw [if_pos rfl, x_centerRow hw hd h, Cb_I, q_120_139] at ex
                    rw [if_pos rfl, m_rowOf (by omega) (wf_r hw h), Cb_I, q_220_94] at em
                    exact done _ ex em
                  · rw [if_neg k7] at ex em
                    exact done _ ex em
  · rw [bI_f h] at ex em
    rw [q_120_8, if_neg (by omega)] at ex
    rw [q_220_5, if_neg (by omega)] at em
    exact done _ ex em
theorem wayF_rg (hw : WF g) {a b : Int} : -1 ≤ wayF g a b ∧ wayF g a b < 20 := by
  have hW := wf_W hw
  have := fs_sp (p := isW g a b) hW.1
  unfold wayF
  omega
theorem o_between {a b : Int} (hw : WF (M 139)) (hd : dgr M 1 (M 139)) : qok (d + 12) 122 222 [zI a, zI b] M := by
  have hR := wf_R hw
  have hW := wf_W hw
  have done : ∀ v : Int, E (d + 12) 122 [zR 0, zI a, zI b] M = Rt (some (zI v)) M → E (d + 12) 222 [zR 138, zI a, zI b] M = Rt (some (zI v)) M → qok (d + 12) 122 222 [zI a, zI b] M := fun v h1 h2 => ⟨zI v, M, M, h1, frr_r, h2, fm_r⟩
  have ex : E (d + 12) 122 [zR 0, zI a, zI b] M = Q (d + 11) 122 8 [zR 0, zI a, zI b, zU] [zI (bI (0 ≤ a ∧ a < M 139 120))] M := by rw [en_122, q_122_0, x_hasRoom hd, Cb_I]
  have em : E (d + 12) 222 [zR 138, zI a, zI b] M = Q (d + 11) 222 5 [zR 138, zI a, zI b] [zI (bI (0 ≤ a ∧ a < M 139 120))] M := by rw [en_222, q_222_0, m_isRoom _ hR, Cb_I]
  rw [q_122_8] at ex
  rw [q_222_5] at em
  by_cases h : 0 ≤ a ∧ a < M 139 120
  · rw [if_neg (bI_n0.2 h), x_hasRoom hd, Cb_I, q_122_19] at ex
    rw [if_neg (bI_n0.2 h), m_isRoom _ hR, Cb_I, q_222_13] at em
    by_cases k : 0 ≤ b ∧ b < M 139 120
    · rw [if_pos (bI_n0.2 k), x_between hw hd, Cb_I, q_122_34] at ex
      rw [if_neg (bI_n0.2 k), m_wayBetween hW, Cb_I, q_222_22, m_told, Cb_I, q_222_25] at em
      by_cases l : wayF (M 139) a b = -1
      · rw [if_neg (fun q => q l)] at ex
        rw [if_pos l] at em
        exact done _ ex em
      · rw [if_pos l] at ex
        rw [if_neg l] at em
        exact done _ ex em
    · rw [if_neg (fun q => q (bI_0.2 k))] at ex
      rw [if_pos (bI_0.2 k)] at em
      exact done _ ex em
  · rw [if_pos (bI_0.2 h)] at ex em
    exact done _ ex em
theorem o_entrance (hw : WF (M 139)) (hd : dgr M 1 (M 139)) : qok (d + 12) 123 223 [] M := by
  have ex := (en_123 (d := d + 11) M).trans (q_123_0 M)
  rw [h1R hd, h1E hd] at ex
  have em := (en_223 (d := d + 11) M).trans (q_223_0 M)
  by_cases h : M 139 120 = 0
  · rw [if_neg (fun q => q h)] at ex em
    exact ⟨_, M, M, ex, frr_r, em, fm_r⟩
  · rw [if_pos h] at ex em
    exact ⟨_, M, M, ex, frr_r, em, fm_r⟩
end
