/-! placeLock -/
def plC (g : Int → Int) (c : Int) : Prop := gL g c = -1 ∧ 0 < farN g c
noncomputable def plF (g : Int → Int) (c : Int) : Int := ab (2 * farN g c - g 120)
noncomputable def plB (g : Int → Int) : Int := am (plC g) (plF g) (g 121)
def usd (g : Int → Int) (k : Int) : Prop := (∃ r, (0 ≤ r ∧ r < g 120) ∧ gK g r = k) ∨ ∃ c, (0 ≤ c ∧ c < g 121) ∧ gL g c = k
noncomputable def plK (g : Int → Int) : Int := fs (fun k => ¬ usd g k) 6
noncomputable def plR (g : Int → Int) (c : Int) : Int := am (fun r => vC g c (-1) (-1) r ∧ gK g r = -1) (fun r => -dpt g r) (g 120)
section
variable {d : Nat} {M : ZM} {g : Int → Int}
theorem farN_rg (hw : WF g) (c : Int) : 0 ≤ farN g c ∧ farN g c ≤ 12 := by
  have hR := wf_R hw
  have := cn_le (p := far g c) hR.1
  unfold farN
  omega
theorem x_bestCorridor (hw : WF g) (hd : dgr M 1 g) : E (d + 5) 72 [zR 1] M = Rt (some (zI (plB g))) M := by
  have hR := wf_R hw
  have hW := wf_W hw
  rw [en_72, q_72_0]
  refine lpi (fun i (s : Int × ZV × ZV) => Q (d + 4) 72 6 [zR 1, zI (am (plC g) (plF g) i), zI s.1, zI i, s.2.1, s.2.2] [] M) (fun o => o = _) (g 121) (fun i s => am (plC g) (plF g) i = -1 ∨ s.1 = plF g (am (plC g) (plF g) i)) ?_ ?_ 0 (0, zU, zU) (by omega) (Or.inl rfl)
  · rintro i ⟨v, z4, z5⟩ i0 i1 h
    dsimp only at h ⊢
    have fr := farN_rg hw i
    have hl := wf_l hw ⟨i0, i1⟩
    obtain ⟨w, e, bc⟩ := x_farCount (d := d) hw hd ⟨i0, i1⟩
    have abz : (if 0 ≤ zw (zw (2 * farN g i) - g 120) then zw (zw (2 * farN g i) - g 120) else zw (0 - zw (zw (2 * farN g i) - g 120))) = plF g i := by
      rw [zw_id (x := 2 * farN g i) (by omega)]
      exact ab_z (by omega)
    refine Or.inr ?_
    rw [q_72_6, h1W hd, if_neg (by omega), e, Cb_I, q_72_19, bc, Cb_I, q_72_22, if_pos (by omega), h1l hd ⟨i0, i1⟩, h1R hd, abz, zw_id (x := i + 1) (by omega)]
    by_cases k1 : gL g i = -1
    · rw [if_neg (fun q => q k1)]
      by_cases k2 : farN g i ≤ 0
      · rw [if_pos k2, am_n i0 (fun z => by have := z.1.2; omega)]
        exact ⟨(v, _, _), rfl, h⟩
      · have pc : plC g i := ⟨k1, by omega⟩
        rw [if_neg k2]
        by_cases k3 : am (plC g) (plF g) i = -1
        · rw [if_pos k3, am_y i0 pc (Or.inl k3)]
          exact ⟨(plF g i, _, _), rfl, Or.inr rfl⟩
        · have hv := h.resolve_left k3
          rw [if_neg k3]
          by_cases k4 : plF g i < plF g (am (plC g) (plF g) i)
          · rw [if_neg (by omega), am_y i0 pc (Or.inr k4)]
            exact ⟨(plF g i, _, _), rfl, Or.inr rfl⟩
          · rw [if_pos (by omega), am_n i0 (fun z => z.2.elim k3 k4)]
            exact ⟨(v, _, _), rfl, h⟩
    · rw [if_pos k1, am_n i0 (fun z => k1 z.1.1)]
      exact ⟨(v, _, _), rfl, h⟩
  · rintro ⟨v, z4, z5⟩ h
    dsimp only
    rw [q_72_6, h1W hd, if_pos (Int.le_refl _)]
    rfl
theorem x_freeColor (hw : WF g) (hd : dgr M 1 g) : E (d + 3) 73 [zR 1] M = Rt (some (zI (plK g))) M := by
  have hR := wf_R hw
  have hW := wf_W hw
  rw [en_73, q_73_0]
  refine lpi (fun i v => Q (d + 2) 73 4 [zR 1, zI v, zI i] [] M) (fun o => o = Rt (some (zI (plK g))) M) (g 120) (fun i v => ST v (fun k => ∃ r, (0 ≤ r ∧ r < i) ∧ gK g r = k)) ?_ ?_ 0 0 (by omega) (ST_cg ST_0 (fun k _ _ => ⟨fun q => q.elim, fun ⟨r, h0, _⟩ => by omega⟩))
  · intro i v i0 i1 h
    have hk := wf_k hw ⟨i0, i1⟩
    refine Or.inr ⟨zor v (kb g i), by rw [q_73_4, h1R hd, if_neg (by omega), x_keyBit hw hd ⟨i0, i1⟩, Cb_I, q_73_18, zw_id (by omega)], ST_cg (ST_or h (ST_kb hk)) (fun k k0 _ => ⟨?_, ?_⟩)⟩
    · rintro (⟨r, r0, r1⟩ | e)
      · exact ⟨r, by omega, r1⟩
      · exact ⟨i, by omega, e.symm⟩
    · rintro ⟨r, r0, r1⟩
      by_cases e : r = i
      · rw [e] at r1
        exact Or.inr r1.symm
      · exact Or.inl ⟨r, by omega, r1⟩
  · intro v h
    rw [q_73_4, h1R hd, if_pos (Int.le_refl _)]
    refine lpi (fun i v => Q (d + 2) 73 28 [zR 1, zI v, zI i] [] M) (fun o => o = Rt (some (zI (plK g))) M) (g 121) (fun i v => ST v (fun k => (∃ r, (0 ≤ r ∧ r < g 120) ∧ gK g r = k) ∨ ∃ c, (0 ≤ c ∧ c < i) ∧ gL g c = k)) ?_ ?_ 0 v (by omega) (ST_cg h (fun k _ _ => ⟨Or.inl, fun q => q.elim id (fun ⟨c, c0, _⟩ => by omega)⟩))
    · intro i v i0 i1 h2
      have hl := wf_l hw ⟨i0, i1⟩
      refine Or.inr ?_
      rw [q_73_28, h1W hd, if_neg (by omega), if_pos (by omega), h1l hd ⟨i0, i1⟩, zw_id (x := i + 1) (by omega)]
      by_cases k : gL g i = -1
      · refine ⟨zor v 0, by rw [if_neg (fun q => q k)], ST_cg (ST_or h2 ST_0) (fun j j0 _ => ⟨?_, ?_⟩)⟩
        · rintro ((e | ⟨c, c0, c1⟩) | e)
          · exact Or.inl e
          · exact Or.inr ⟨c, by omega, c1⟩
          · exact e.elim
        · rintro (e | ⟨c, c0, c1⟩)
          · exact Or.inl (Or.inl e)
          · by_cases q : c = i
            · rw [q] at c1; omega
            · exact Or.inl (Or.inr ⟨c, by omega, c1⟩)
      · refine ⟨zor v (zshl 1 (gL g i)), by rw [if_pos k, if_pos (by omega)], ST_cg (ST_or h2 (ST_1 (by omega))) (fun j j0 _ => ⟨?_, ?_⟩)⟩
        · rintro ((e | ⟨c, c0, c1⟩) | e)
          · exact Or.inl e
          · exact Or.inr ⟨c, by omega, c1⟩
          · exact Or.inr ⟨i, by omega, e.symm⟩
        · rintro (e | ⟨c, c0, c1⟩)
          · exact Or.inl (Or.inl e)
          · by_cases q : c = i
            · rw [q] at c1; exact Or.inr c1.symm
            · exact Or.inl (Or.inr ⟨c, by omega, c1⟩)
    · intro v h2
      have h2 : ST v (usd g) := h2
      rw [q_73_28, h1W hd, if_pos (Int.le_refl _)]
      refine lpf (fun i => Q (d + 2) 73 69 [zR 1, zI v, zI i] [] M) (fun k => ¬ usd g k) (fun v => Rt (some (zI v)) M) 6 (by omega) ?_ ?_ ?_
      · intro i i0 i1 k
        rw [q_73_69, if_neg (by omega), x_holds h2 (by omega), Cb_I, q_73_80, if_pos (bI_n0.2 (Classical.not_not.1 k)), zw_id (by omega)]
      · intro i i0 i1 k
        rw [q_73_69, if_neg (by omega), x_holds h2 (by omega), Cb_I, q_73_80, if_neg (fun q => q (bI_0.2 k))]
      · rw [q_73_69, if_pos (Int.le_refl _)]
theorem x_bestRoom {c : Int} (hw : WF g) (hd : dgr M 1 g) (hc : 0 ≤ c ∧ c < g 121) : ∃ M', E (d + 4) 74 [zR 118, zR 1, zI c] M = Rt (some (zI (plR g c))) M' ∧ fr1 119 M M' := by
  have hR := wf_R hw
  have hE := wf_E hw
  obtain ⟨v0, e0, s0⟩ := x_entranceSet (d := d + 2) hw hd
  obtain ⟨v, e, s⟩ := x_spread (d := d) (wo := c) hw hd (F := ent g) (fun r h => ent_rg hw h) (fun h => ⟨g 122, rfl, h⟩) s0 ST_0 ST_0
  have s' : ST v (vC g c (-1) (-1)) := ST_cg s (fun r _ _ => clo_q hw (fun k k0 => ⟨fun z => z.elim, fun z => by unfold eqn at z; omega⟩) (fun k k0 => ⟨fun z => z.elim, fun z => by unfold eqn at z; omega⟩) r)
  obtain ⟨M1, e1, f1, a1⟩ := x_measure (d := d + 1) (M := M) (g := g) (r := 119) rfl rfl (by omega) hw hd hE.1
  have hd1 := fr1_d f1 (by omega) hd
  have a1 : ∀ r, 0 ≤ r → r < 12 → M1 119 r = dpt g r := a1
  refine ⟨M1, ?_, f1⟩
  rw [en_74, q_74_0, e0, Cb_I, q_74_5, e, Cb_I, q_74_11, h1E hd, e1, Cb_V, q_74_24]
  refine lpi (fun i (z : ZV) => Q (d + 3) 74 30 [zR 118, zR 1, zI c, zI v, zI (am (fun r => vC g c (-1) (-1) r ∧ gK g r = -1) (fun r => -dpt g r) i), zI i, z] [] M1) (fun o => o = Rt (some (zI (plR g c))) M1) (g 120) (fun _ _ => True) ?_ ?_ 0 zU (by omega) trivial
  · intro i z i0 i1 _
    refine Or.inr ?_
    rw [q_74_30, h1R hd1, if_neg (by omega), x_holds s' (by omega), Cb_I, q_74_45]
    by_cases k1 : vC g c (-1) (-1) i
    · rw [if_neg (bI_n0.2 k1), if_pos (by omega), h1k hd1 ⟨i0, i1⟩]
      by_cases k2 : gK g i = -1
      · rw [if_neg (fun q => q k2)]
        rcases am_sp (p := fun r => vC g c (-1) (-1) r ∧ gK g r = -1) (f := fun r => -dpt g r) i0 with q | q
        · rw [if_pos q.1, am_y i0 ⟨k1, k2⟩ (Or.inl q.1), zw_id (by omega)]
          exact ⟨zI 1, rfl, trivial⟩
        · rw [if_neg (by omega), if_pos (by omega), if_pos (by omega), a1 i i0 (by omega), a1 _ q.1.1 (by omega), zw_id (x := i + 1) (by omega)]
          refine ⟨zI 1, ?_, trivial⟩
          by_cases l : -dpt g i < -dpt g (am (fun r => vC g c (-1) (-1) r ∧ gK g r = -1) (fun r => -dpt g r) i)
          · rw [am_y i0 ⟨k1, k2⟩ (Or.inr l), if_neg (by omega)]
          · rw [am_n i0 (fun z => z.2.elim (fun w => by omega) l), if_pos (by omega)]
      · rw [if_pos k2, q_74_63, am_n i0 (fun z => k2 z.1.2), zw_id (by omega)]
        exact ⟨zI 0, rfl, trivial⟩
    · rw [if_pos (bI_0.2 k1), q_74_63, am_n i0 (fun z => k1 z.1.1), zw_id (by omega)]
      exact ⟨zI 0, rfl, trivial⟩
  · intro z _
    rw [q_74_30, h1R hd1, if_pos (Int.le_refl _)]
    rfl
theorem x_fit (hw : WF g) (hd : dgr M 1 g) : ∃ M', fr1 119 M M' ∧ ((plB g = -1 ∧ E (d + 6) 71 [zR 118, zR 1] M = Rt (some (zI (-104))) M') ∨ (plB g ≠ -1 ∧ plK g = -1 ∧ E (d + 6) 71 [zR 118, zR 1] M = Rt (some (zI (-103))) M') ∨ (plB g ≠ -1 ∧ plK g ≠ -1 ∧ plR g (plB g) = -1 ∧ E (d + 6) 71 [zR 118, zR 1] M = Rt (some (zI (-105))) M') ∨ (plB g ≠ -1 ∧ plK g ≠ -1 ∧ plR g (plB g) ≠ -1 ∧ E (d + 6) 71 [zR 118, zR 1] M = Rt (some (zI (plB g))) (zwr (zwr M' 9 (plB g) (plK g)) 6 (plR g (plB g)) (plK g)))) := by
  have hR := wf_R hw
  have hW := wf_W hw
  rw [en_71, q_71_0, x_bestCorridor hw hd, Cb_I, q_71_4]
  by_cases k1 : plB g = -1
  · exact ⟨M, fr1_r, Or.inl ⟨k1, by rw [if_neg (fun q => q k1)]⟩⟩
  · have b1 := am_sp (p := plC g) (f := plF g) hW.1
    have b2 : 0 ≤ plB g ∧ plB g < g 121 := by
      unfold plB at k1 ⊢
      omega
    rw [if_pos k1, x_freeColor hw hd, Cb_I, q_71_17]
    by_cases k2 : plK g = -1
    · exact ⟨M, fr1_r, Or.inr (Or.inl ⟨k1, k2, by rw [if_neg (fun q => q k2)]⟩)⟩
    · obtain ⟨M1, e1, f1⟩ := x_bestRoom (d := d + 1) hw hd b2
      rw [if_pos k2, e1, Cb_I, q_71_32]
      by_cases k3 : plR g (plB g) = -1
      · exact ⟨M1, f1, Or.inr (Or.inr (Or.inl ⟨k1, k2, k3, by rw [if_neg (fun q => q k3)]⟩))⟩
      · have r1 := am_sp (p := fun r => vC g (plB g) (-1) (-1) r ∧ gK g r = -1) (f := fun r => -dpt g r) hR.1
        have r2 : 0 ≤ plR g (plB g) ∧ plR g (plB g) < g 120 := by
          unfold plR at k3 ⊢
          omega
        exact ⟨M1, f1, Or.inr (Or.inr (Or.inr ⟨k1, k2, k3, by rw [if_pos k3, if_pos (by omega), if_pos (by omega)]⟩))⟩
theorem m_colors (hw : WF (M 139)) : ∃ v, E (d + 2) 196 [zR 138] M = Rt (some (zI v)) M ∧ ST v (usd (M 139)) := by
  have hR := wf_R hw
  have hW := wf_W hw
  rw [en_196, q_196_0]
  generalize hg : M 139 = g at *
  refine lpi (fun i v => Q (d + 1) 196 4 [zR 138, zI v, zI i] [] M) (fun o => ∃ v, o = Rt (some (zI v)) M ∧ ST v (usd g)) (g 121) (fun i v => ST v (fun k => ∃ c, (0 ≤ c ∧ c < i) ∧ gL g c = k)) ?_ ?_ 0 0 (by omega) (ST_cg ST_0 (fun k _ _ => ⟨fun q => q.elim, fun ⟨r, h0, _⟩ => by omega⟩))
  · intro i v i0 i1 h
    have hl := wf_l hw ⟨i0, i1⟩
    refine Or.inr ?_
    rw [q_196_4, hg, if_neg (by omega), m_l (by omega), Cb_I, q_196_22, hg]
    by_cases k : gL g i < 0
    · refine ⟨zor v 0, by rw [if_pos k, zw_id (by omega)], ST_cg (ST_or h ST_0) (fun j j0 _ => ⟨?_, ?_⟩)⟩
      · rintro (⟨c, c0, c1⟩ | e)
        · exact ⟨c, by omega, c1⟩
        · exact e.elim
      · rintro ⟨c, c0, c1⟩
        by_cases q : c = i
        · rw [q] at c1; omega
        · exact Or.inl ⟨c, by omega, c1⟩
    · refine ⟨zor v (zshl 1 (gL g i)), by rw [if_neg k, m_l (by omega), Cb_I, q_196_32, hg, zw_id (by omega)], ST_cg (ST_or h (ST_1 (by omega))) (fun j j0 _ => ⟨?_, ?_⟩)⟩
      · rintro (⟨c, c0, c1⟩ | e)
        · exact ⟨c, by omega, c1⟩
        · exact ⟨i, by omega, e.symm⟩
      · rintro ⟨c, c0, c1⟩
        by_cases q : c = i
        · rw [q] at c1; exact Or.inr c1.symm
        · exact Or.inl ⟨c, by omega, c1⟩
  · intro v h
    rw [q_196_4, hg, if_pos (Int.le_refl _)]
    refine lpi (fun i v => Q (d + 1) 196 47 [zR 138, zI v, zI i] [] M) (fun o => ∃ v, o = Rt (some (zI v)) M ∧ ST v (usd g)) (g 120) (fun i v => ST v (fun k => (∃ r, (0 ≤ r ∧ r < i) ∧ gK g r = k) ∨ ∃ c, (0 ≤ c ∧ c < g 121) ∧ gL g c = k)) ?_ ?_ 0 v (by omega) (ST_cg h (fun k _ _ => ⟨Or.inr, fun q => q.elim (fun ⟨c, c0, _⟩ => by omega) id⟩))
    · intro i v i0 i1 h2
      have hk := wf_k hw ⟨i0, i1⟩
      refine Or.inr ?_
      rw [q_196_47, hg, if_neg (by omega), m_k (by omega), Cb_I, q_196_65, hg]
      by_cases k : gK g i < 0
      · refine ⟨zor v 0, by rw [if_pos k, zw_id (by omega)], ST_cg (ST_or h2 ST_0) (fun j j0 _ => ⟨?_, ?_⟩)⟩
        · rintro ((⟨r, r0, r1⟩ | e) | e)
          · exact Or.inl ⟨r, by omega, r1⟩
          · exact Or.inr e
          · exact e.elim
        · rintro (⟨r, r0, r1⟩ | e)
          · by_cases q : r = i
            · rw [q] at r1; omega
            · exact Or.inl (Or.inl ⟨r, by omega, r1⟩)
          · exact Or.inl (Or.inr e)
      · refine ⟨zor v (zshl 1 (gK g i)), by rw [if_neg k, m_k (by omega), Cb_I, q_196_75, hg, zw_id (by omega)], ST_cg (ST_or h2 (ST_1 (by omega))) (fun j j0 _ => ⟨?_, ?_⟩)⟩
        · rintro ((⟨r, r0, r1⟩ | e) | e)
          · exact Or.inl ⟨r, by omega, r1⟩
          · exact Or.inr e
          · exact Or.inl ⟨i, by omega, e.symm⟩
        · rintro (⟨r, r0, r1⟩ | e)
          · by_cases q : r = i
            · rw [q] at r1; exact Or.inr r1.symm
            · exact Or.inl (Or.inl ⟨r, by omega, r1⟩)
          · exact Or.inl (Or.inr e)
    · intro v h2
      exact ⟨v, by rw [q_196_47, hg, if_pos (Int.le_refl _)], h2⟩
theorem m_setLock {c v : Int} (hw : WF (M 139)) (hc : 0 ≤ c ∧ c < M 139 121) (hv : -1 ≤ v ∧ v ≤ 5) : ∃ w, E (d + 3) 170 [zR 138, zI c, zI v] M = Rt (some (zI w)) (zwr M 139 (60 + 3 * c + 2) v) := by
  have hW := wf_W hw
  have z0 : zw (zw (60 + zw (3 * c)) + 2) = 60 + 3 * c + 2 := by unfold zw; omega
  exact ⟨_, by rw [en_170, q_170_0, m_isCorridor _ hW, Cb_I, q_170_5, if_pos (bI_n0.2 hc), m_in, Cb_I, q_170_17, if_pos (bI_n0.2 hv), m_l (by omega), Cb_I, q_170_29, z0, if_pos (by omega), m_told, Cb_I, q_170_48]⟩
theorem m_setKey {r v : Int} (hw : WF (M 139)) (hr : 0 ≤ r ∧ r < M 139 120) (hv : -1 ≤ v ∧ v ≤ 5) : ∃ w, E (d + 3) 171 [zR 138, zI r, zI v] M = Rt (some (zI w)) (zwr M 139 (5 * r + 4) v) := by
  have hR := wf_R hw
  have z0 : zw (zw (0 + zw (5 * r)) + 4) = 5 * r + 4 := by unfold zw; omega
  exact ⟨_, by rw [en_171, q_171_0, m_isRoom _ hR, Cb_I, q_171_5, if_pos (bI_n0.2 hr), m_in, Cb_I, q_171_17, if_pos (bI_n0.2 hv), m_k (by omega), Cb_I, q_171_29, z0, if_pos (by omega), m_told, Cb_I, q_171_47]⟩
theorem m_bestC (hw : WF (M 139)) (hg : M 139 = g) : ∃ M', fr1 145 M M' ∧ E (d + 4) 197 [zR 138] M = (if plB g ≠ -1 then Q (d + 3) 197 93 [zR 138, zI (plB g), zI 0, zU, zU] [] M' else Rt (some (zI (-104))) M') := by
  rw [en_197, q_197_0]
  rw [hg] at hw
  have hR := wf_R hw
  have hW := wf_W hw
  refine lpi (fun i (M1 : ZM) => Q (d + 3) 197 4 [zR 138, zI (am (plC g) (plF g) i), zI i, zU, zU] [] M1) (fun o => ∃ M', fr1 145 M M' ∧ o = (if plB g ≠ -1 then Q (d + 3) 197 93 [zR 138, zI (plB g), zI 0, zU, zU] [] M' else Rt (some (zI (-104))) M')) (g 121) (fun _ M1 => fr1 145 M M1) ?_ ?_ 0 M (by omega) fr1_r
  · intro i M1 i0 i1 f1
    have g1 : M1 139 = g := (f1 139 (by decide)).trans hg
    have fr := farN_rg hw i
    refine Or.inr ?_
    rw [q_197_4, g1, if_neg (by omega), m_l (by omega), Cb_I, q_197_21, g1]
    by_cases k1 : gL g i = -1
    · obtain ⟨M2, e2, f2⟩ := m_farSide (d := d) (M := M1) (c := i) (by rw [g1]; exact hw) (by rw [g1]; exact ⟨i0, i1⟩)
      have g2 : M2 139 = g := (f2 139 (by decide)).trans g1
      have F2 := fr1_t f1 f2
      rw [if_neg (fun q => q k1), e2, Cb_I, q_197_30, g1]
      by_cases k2 : farN g i ≤ 0
      · rw [if_pos k2, am_n i0 (fun z => by have := z.1.2; omega), zw_id (by omega)]
        exact ⟨M2, rfl, F2⟩
      · have pc : plC g i := ⟨k1, by omega⟩
        rw [if_neg k2]
        by_cases k3 : am (plC g) (plF g) i = -1
        · rw [if_pos k3, am_y i0 pc (Or.inl k3), zw_id (by omega)]
          exact ⟨M2, rfl, F2⟩
        · have b1 := (am_sp (p := plC g) (f := plF g) i0).resolve_left (fun z => k3 z.1)
          have fb := farN_rg hw (am (plC g) (plF g) i)
          obtain ⟨M3, e3, f3⟩ := m_farSide (d := d) (M := M2) (c := i) (by rw [g2]; exact hw) (by rw [g2]; exact ⟨i0, i1⟩)
          have g3 : M3 139 = g := (f3 139 (by decide)).trans g2
          obtain ⟨M4, e4, f4⟩ := m_farSide (d := d) (M := M3) (c := am (plC g) (plF g) i) (by rw [g3]; exact hw) (by rw [g3]; omega)
          have g4 : M4 139 = g := (f4 139 (by decide)).trans g3
          have F4 := fr1_t F2 (fr1_t f3 f4)
          rw [if_neg k3, e3, Cb_I, q_197_44, g2, g3, zw_id (x := 2 * farN g i) (by omega), m_off _ _ (by omega), Cb_I, q_197_55, e4, Cb_I, q_197_61, g3, g4, zw_id (x := 2 * farN g (am (plC g) (plF g) i)) (by omega), m_off _ _ (by omega), Cb_I, q_197_72, zw_id (x := i + 1) (by omega)]
          have p1 : ab (2 * farN g i - g 120) = plF g i := rfl
          have p2 : ab (2 * farN g (am (plC g) (plF g) i) - g 120) = plF g (am (plC g) (plF g) i) := rfl
          rw [p1, p2]
          refine ⟨M4, ?_, F4⟩
          by_cases k4 : plF g i < plF g (am (plC g) (plF g) i)
          · rw [am_y i0 pc (Or.inr k4), if_neg (by omega)]
          · rw [am_n i0 (fun z => z.2.elim k3 k4), if_pos (by omega)]
    · rw [if_pos k1, am_n i0 (fun z => k1 z.1.1), zw_id (by omega)]
      exact ⟨M1, rfl, f1⟩
  · intro M1 f1
    have g1 : M1 139 = g := (f1 139 (by decide)).trans hg
    refine ⟨M1, f1, ?_⟩
    rw [q_197_4, g1, if_pos (Int.le_refl _)]
    rfl
theorem m_color {b : Int} (hw : WF (M 139)) (hg : M 139 = g) : (plK g = -1 ∧ Q (d + 3) 197 93 [zR 138, zI b, zI 0, zU, zU] [] M = Rt (some (zI (-103))) M) ∨ ((0 ≤ plK g ∧ plK g ≤ 5) ∧ Q (d + 3) 197 93 [zR 138, zI b, zI 0, zU, zU] [] M = Cb (E (d + 3) 193 [zR 138, zI b, zI (-1), zI (-1)] M) (fun v h => zrun (zevl (d + 3)) 197 133 [zR 138, zI b, zI (plK g), zU, zU] (v.toList ++ []) h)) := by
  obtain ⟨v, e, s⟩ := m_colors (d := d + 1) hw
  rw [hg] at s
  refine lpi (fun i (_ : Unit) => Q (d + 3) 197 93 [zR 138, zI b, zI i, zU, zU] [] M) (fun o => (plK g = -1 ∧ o = Rt (some (zI (-103))) M) ∨ ((0 ≤ plK g ∧ plK g ≤ 5) ∧ o = Cb (E (d + 3) 193 [zR 138, zI b, zI (-1), zI (-1)] M) (fun v h => zrun (zevl (d + 3)) 197 133 [zR 138, zI b, zI (plK g), zU, zU] (v.toList ++ []) h))) 6 (fun i _ => ∀ j, 0 ≤ j → j < i → usd g j) ?_ ?_ 0 () (by omega) (fun j j0 j1 => absurd j1 (by omega))
  · intro i _ i0 i1 h
    rw [q_197_93, if_neg (by omega), e, Cb_I, q_197_103, ST_at s (by omega)]
    by_cases k : usd g i
    · refine Or.inr ⟨(), by rw [bI_t k, if_neg (by omega), zw_id (by omega)], fun j j0 j1 => ?_⟩
      by_cases q : j = i
      · rw [q]; exact k
      · exact h j j0 (by omega)
    · have pk : plK g = i := fs_at ⟨i0, i1⟩ k (fun j j0 j1 z => z (h j j0 j1))
      refine Or.inl (Or.inr ⟨by omega, ?_⟩)
      rw [bI_f k, if_pos (by omega), if_pos (by omega), pk]
  · intro _ h
    have pk : plK g = -1 := fs_no (fun j j0 j1 z => z (h j j0 j1))
    exact Or.inl ⟨pk, by rw [q_197_93, if_pos (by omega), if_neg (by omega)]⟩
theorem m_bestR {c k : Int} (hw : WF (M 139)) (hg : M 139 = g) (hv : ∀ r, 0 ≤ r → r < 12 → M 147 r = bI (vT g c (-1) (-1) r)) : ∃ M' z, fr1 145 M M' ∧ Q (d + 4) 197 133 [zR 138, zI c, zI k, zU, zU] [] M = (if plR g c ≠ -1 then (Cb (E (d + 4) 162 [zR 138] M') (fun v h => zrun (zevl (d + 4)) 197 211 [zR 138, zI c, zI k, zI (plR g c), zI z] (v.toList ++ []) h)) else Rt (some (zI (-105))) M') := by
  rw [hg] at hw
  have hR := wf_R hw
  rw [q_197_133]
  refine lpi (fun i (M1 : ZM) => Q (d + 4) 197 138 [zR 138, zI c, zI k, zI (am (fun r => vC g c (-1) (-1) r ∧ gK g r = -1) (fun r => -dpt g r) i), zI i] [] M1) (fun o => ∃ M' z, fr1 145 M M' ∧ o = (if plR g c ≠ -1 then (Cb (E (d + 4) 162 [zR 138] M') (fun v h => zrun (zevl (d + 4)) 197 211 [zR 138, zI c, zI k, zI (plR g c), zI z] (v.toList ++ []) h)) else Rt (some (zI (-105))) M')) (g 120) (fun _ M1 => fr1 145 M M1) ?_ ?_ 0 M (by omega) fr1_r
  · intro i M1 i0 i1 f1
    have g1 : M1 139 = g := (f1 139 (by decide)).trans hg
    refine Or.inr ?_
    rw [q_197_138, g1, if_neg (by omega), if_pos (by omega), f1 147 (by decide), hv i i0 (by omega)]
    by_cases k1 : vC g c (-1) (-1) i
    · rw [if_neg (bI_n0.2 ((vT_clo hw i).2 k1)), m_k (by omega), Cb_I, q_197_167, g1]
      by_cases k2 : gK g i = -1
      · rw [if_neg (fun q => q k2)]
        rcases am_sp (p := fun r => vC g c (-1) (-1) r ∧ gK g r = -1) (f := fun r => -dpt g r) i0 with q | q
        · rw [if_pos q.1, am_y i0 ⟨k1, k2⟩ (Or.inl q.1), zw_id (by omega)]
          exact ⟨M1, rfl, f1⟩
        · obtain ⟨M2, e2, f2⟩ := m_depthOf (d := d + 1) (M := M1) (r := i) (by rw [g1]; exact hw) (by rw [g1]; exact ⟨i0, i1⟩)
          have g2 : M2 139 = g := (f2 139 (by decide)).trans g1
          obtain ⟨M3, e3, f3⟩ := m_depthOf (d := d + 1) (M := M2) (r := am (fun r => vC g c (-1) (-1) r ∧ gK g r = -1) (fun r => -dpt g r) i) (by rw [g2]; exact hw) (by rw [g2]; omega)
          rw [if_neg (by omega), e2, Cb_I, q_197_182, e3, Cb_I, q_197_187, g1, g2, zw_id (x := i + 1) (by omega)]
          refine ⟨M3, ?_, fr1_t f1 (fr1_t f2 f3)⟩
          by_cases l : -dpt g i < -dpt g (am (fun r => vC g c (-1) (-1) r ∧ gK g r = -1) (fun r => -dpt g r) i)
          · rw [am_y i0 ⟨k1, k2⟩ (Or.inr l), if_neg (by omega)]
          · rw [am_n i0 (fun z => z.2.elim (fun w => by omega) l), if_pos (by omega)]
      · rw [if_pos k2, am_n i0 (fun z => k2 z.1.2), zw_id (by omega)]
        exact ⟨M1, rfl, f1⟩
    · rw [if_pos (bI_0.2 (fun z => k1 ((vT_clo hw i).1 z))), am_n i0 (fun z => k1 z.1.1), zw_id (by omega)]
      exact ⟨M1, rfl, f1⟩
  · intro M1 f1
    have g1 : M1 139 = g := (f1 139 (by decide)).trans hg
    refine ⟨M1, g 120, f1, ?_⟩
    rw [q_197_138, g1, if_pos (Int.le_refl _)]
    rfl
theorem o_placeLock {S : Int → Int} (hr : RL S M) : uok (d + 12) 113 197 [] S M := by
  have h' := hr
  obtain ⟨h1, h2, h3, h4, h5, h6⟩ := hr
  have hR := wf_R h2
  have hW := wf_W h2
  have sl := slo_rg (M 19 1)
  obtain ⟨Ma, ea, fa, da⟩ := x_prepare (d := d + 8) h4.1 h2 h3
  have da1 : dgr Ma 1 (M 139) := dgr_cg (fun b b0 b1 => fa b (by omega)) h3
  have a39 : Ma 139 = M 139 := fa 139 (by omega)
  obtain ⟨Mb, fb, xx⟩ := x_fit (d := d + 5) h2 da1
  have b19 : Mb 19 = M 19 := (fb 19 (by omega)).trans (fa 19 (by omega))
  have hb1 : 0 ≤ Mb 19 1 ∧ Mb 19 1 < 7 := by rw [b19]; exact h4.1
  have hb2 : 0 ≤ Mb 19 2 ∧ Mb 19 2 ≤ 6 := by rw [b19, h4.2.2.1]; exact h4.2.1
  have b39 : Mb 139 = M 139 := (fb 139 (by omega)).trans a39
  have qb : frr 109 137 Ma Mb := frr_1 fb (by omega) (by omega)
  have fail : ∀ v : Int, v < 0 → E (d + 11) 71 [zR 118, zR 1] Ma = Rt (some (zI v)) Mb → (∃ Md, E (d + 12) 197 [zR 138] Mb = Rt (some (zI v)) Md ∧ fm Mb Md) → uok (d + 12) 113 197 [] S M := by
    rintro v hv e ⟨Md, em, fd⟩
    refine ⟨zI v, Mb, Md, ?_, em, RL_nop h' fa qb fd⟩
    rw [en_113, q_113_0, ea, Cb_V, q_113_11, e, Cb_I, q_113_23, x_settled hb1 hb2, Cb_I, q_113_26, if_pos hv]
  rcases xx with ⟨k1, e⟩ | ⟨k1, k2, e⟩ | ⟨k1, k2, k3, e⟩ | ⟨k1, k2, k3, e⟩
  · obtain ⟨M1, f1, e1⟩ := m_bestC (d := d + 8) (M := Mb) (g := M 139) (by rw [b39]; exact h2) b39
    rw [if_neg (fun q => q k1)] at e1
    exact fail _ (by decide) e ⟨M1, e1, fm_1 f1 (by omega)⟩
  · obtain ⟨M1, f1, e1⟩ := m_bestC (d := d + 8) (M := Mb) (g := M 139) (by rw [b39]; exact h2) b39
    have g1 : M1 139 = M 139 := (f1 139 (by decide)).trans b39
    rw [if_pos k1] at e1
    rcases m_color (d := d + 8) (M := M1) (g := M 139) (b := plB (M 139)) (by rw [g1]; exact h2) g1 with ⟨-, c2⟩ | ⟨c1, -⟩
    · exact fail _ (by decide) e ⟨M1, e1.trans c2, fm_1 f1 (by omega)⟩
    · omega
  · obtain ⟨M1, f1, e1⟩ := m_bestC (d := d + 8) (M := Mb) (g := M 139) (by rw [b39]; exact h2) b39
    have g1 : M1 139 = M 139 := (f1 139 (by decide)).trans b39
    rw [if_pos k1] at e1
    rcases m_color (d := d + 8) (M := M1) (g := M 139) (b := plB (M 139)) (by rw [g1]; exact h2) g1 with ⟨c1, -⟩ | ⟨-, c2⟩
    · omega
    · obtain ⟨M2, e2, f2, v2⟩ := m_tellVisit (d := d + 6) (M := M1) (by rw [g1]; exact h2) (plB (M 139)) (-1) (-1)
      have g2 : M2 139 = M 139 := (fm_g f2).trans g1
      rw [g1] at v2
      obtain ⟨M3, z, f3, e3⟩ := m_bestR (d := d + 7) (M := M2) (g := M 139) (c := plB (M 139)) (k := plK (M 139)) (by rw [g2]; exact h2) g2 v2.2.2.1
      rw [if_neg (fun q => q k3)] at e3
      exact fail _ (by decide) e ⟨M3, by rw [e1, c2, e2, Cb_V]; exact e3, fm_t (fm_1 f1 (by omega)) (fm_t f2 (fm_1 f3 (by omega)))⟩
  · have bc : 0 ≤ plB (M 139) ∧ plB (M 139) < M 139 121 := by
      have := am_sp (p := plC (M 139)) (f := plF (M 139)) hW.1
      unfold plB at k1 ⊢
      omega
    have br : 0 ≤ plR (M 139) (plB (M 139)) ∧ plR (M 139) (plB (M 139)) < M 139 120 := by
      have := am_sp (p := fun r => vC (M 139) (plB (M 139)) (-1) (-1) r ∧ gK (M 139) r = -1) (f := fun r => -dpt (M 139) r) hR.1
      unfold plR at k3 ⊢
      omega
    have hv : -1 ≤ plK (M 139) ∧ plK (M 139) ≤ 5 := by
      have := fs_sp (p := fun k => ¬ usd (M 139) k) (n := 6) (by omega)
      unfold plK at k2 ⊢
      omega
    generalize hc : plB (M 139) = c at *
    generalize hs : plR (M 139) c = s at *
    generalize hk : plK (M 139) = k at *
    have db1 : dgr Mb 1 (M 139) := fr1_d fb (by omega) da1
    have w1 := gLk_WF (c := c) (v := k) h2 bc hv
    have db2 := dgr_ky (r := s) (v := k) w1 (dgr_lk (v := k) h2 db1 bc) (by rw [up1_n (by omega)]; exact br)
    have w2 := gKy_WF (r := s) (v := k) w1 (by rw [up1_n (by omega)]; exact br) hv
    generalize hMc : zwr (zwr Mb 9 c k) 6 s k = Mc at *
    have fc : frr 1 9 Mb Mc := by rw [← hMc]; exact frr_w (frr_w frr_r (by omega) (by omega)) (by omega) (by omega)
    have c19 : Mc 19 = M 19 := (fc 19 (by omega)).trans b19
    have hc1 : 0 ≤ Mc 19 1 ∧ Mc 19 1 < 7 := by rw [c19]; exact h4.1
    have hc2 : 0 ≤ Mc 19 2 ∧ Mc 19 2 ≤ 6 := by rw [c19, h4.2.2.1]; exact h4.2.1
    have n39 : cmx Mc 139 = M 139 := ((cmx_n (by decide)).trans (fc 139 (by omega))).trans b39
    obtain ⟨M1, f1, e1⟩ := m_bestC (d := d + 8) (M := cmx Mc) (g := M 139) (by rw [n39]; exact h2) n39
    have g1 : M1 139 = M 139 := (f1 139 (by decide)).trans n39
    rw [hc, if_pos k1] at e1
    rcases m_color (d := d + 8) (M := M1) (g := M 139) (b := c) (by rw [g1]; exact h2) g1 with ⟨c1, -⟩ | ⟨-, c2⟩
    · omega
    · obtain ⟨M2, e2, f2, v2⟩ := m_tellVisit (d := d + 6) (M := M1) (by rw [g1]; exact h2) c (-1) (-1)
      have g2 : M2 139 = M 139 := (fm_g f2).trans g1
      rw [g1] at v2
      obtain ⟨M3, z, f3, e3⟩ := m_bestR (d := d + 7) (M := M2) (g := M 139) (c := c) (k := k) (by rw [g2]; exact h2) g2 v2.2.2.1
      have g3 : M3 139 = M 139 := (f3 139 (by decide)).trans g2
      rw [hs, if_pos k3] at e3
      obtain ⟨M4, e4, f4, a4⟩ := m_remembers (d := d + 10) (M := M3)
      have g4 : M4 139 = M 139 := (f4 139 (by decide)).trans g3
      obtain ⟨t1, e5⟩ := m_setLock (d := d + 8) (M := M4) (c := c) (v := k) (by rw [g4]; exact h2) (by rw [g4]; exact bc) hv
      generalize hM5 : zwr M4 139 (60 + 3 * c + 2) k = M5 at *
      have g5 : M5 139 = up1 (M 139) (60 + 3 * c + 2) k := by rw [← hM5, zwr_u, g4]
      obtain ⟨t2, e6⟩ := m_setKey (d := d + 8) (M := M5) (r := s) (v := k) (by rw [g5]; exact w1) (by rw [g5, up1_n (by omega)]; exact br) hv
      generalize hM6 : zwr M5 139 (5 * s + 4) k = M6 at *
      have g6 : M6 139 = up1 (up1 (M 139) (60 + 3 * c + 2) k) (5 * s + 4) k := by rw [← hM6, zwr_u, g5]
      have f6 : fr1 139 M4 M6 := by rw [← hM6, ← hM5]; exact fr1_w (fr1_w fr1_r)
      have F3 : fm (cmx Mc) M3 := fm_t (fm_1 f1 (by omega)) (fm_t f2 (fm_1 f3 (by omega)))
      have F6 : fms (cmx Mc) M6 := fms_t (fms_m F3) (fms_t (fms_1 f4 (by omega)) (fms_1 f6 (by omega)))
      have e138 : M6 138 2 = M 138 2 := (F6.2 2 (by unfold prs; omega)).trans (by rw [cmx_n (by decide), fc 138 (by omega), fb 138 (by omega), fa 138 (by omega)])
      obtain ⟨Mf, ef, ff, hf⟩ := m_changes (d := d + 10) (M := M6) (by rw [e138]; exact h4.2.1)
      refine ⟨zI c, cmx Mc, Mf, ?_, ?_, ?_⟩
      · rw [en_113, q_113_0, ea, Cb_V, q_113_11, e, Cb_I, q_113_23, x_settled hc1 hc2, Cb_I, q_113_26, if_neg (by omega)]
      · rw [e1, c2, e2, Cb_V, hk]
        refine e3.trans ?_
        rw [e4, Cb_V, q_197_211, e5, Cb_I, q_197_217, e6, Cb_I, q_197_225, ef, Cb_V, q_197_231]
      · have m42 : ∀ i, 0 ≤ i → i < 124 → M6 142 i = M 139 i := fun i i0 i1 => by rw [f6 142 (by decide), a4 i i0 i1, g3]
        exact RL_chg (Mb := Mc) (Md := M6) h' fa da (fxs_t (fxs_q qb) (fxs_9 fc)) F6 ff ⟨hf.1, fun i i0 i1 => ⟨(hf.2 i i0 i1).1, (hf.2 i i0 i1).2.trans (m42 i i0 i1)⟩⟩ (by rw [g6]; exact w2) (by rw [g6]; exact db2)
end
