/-! walkLength, walkRoom, criticalLength -/
section
variable {d : Nat} {M : ZM} {g : Int → Int}
/-- the class's length of a walk to a room, -1: there is none -/
def wl (M : ZM) (r : Int) : Int := if M 131 r = -1 then -1 else M 129 (M 131 r)
theorem x_lengthTo {r : Int} (hw : WF g) (w : wx (tr g) (bgn g) (g 120) (xS M) (M 128) (M 129) (M 131) (M 125 6)) (hn : M 125 6 ≤ 768) (hr : 0 ≤ r ∧ r < g 120) : E (d + 1) 101 [zR 125, zI r] M = Rt (some (zI (wl M r))) M := by
  have hR := wf_R hw
  rw [en_101, q_101_0, if_pos (by omega)]
  unfold wl
  rcases w.2.2.2.2.2.1 r hr.1 hr.2 with k | k
  · rw [if_neg (fun z => z k.1), if_pos k.1]
  · rw [if_pos (by omega), if_pos (by omega), if_pos (by omega), if_neg (by omega)]
theorem wl_f {r : Int} {f : Int → Int} (hw : WF g) (w : wx (tr g) (bgn g) (g 120) (xS M) (M 128) (M 129) (M 131) (M 125 6)) (m : wm (tr g) r (g 120) f) (hr : 0 ≤ r ∧ r < g 120) : f (bgn g) = wl M r := by
  unfold wl
  by_cases k : M 131 r = -1
  · rw [if_pos k]
    exact wx_no w m hr k
  · rw [if_neg k]
    exact wx_len w m hr k
theorem o_walkLength {r : Int} (hw : WF (M 139)) (hd : dgr M 1 (M 139)) : qok (d + 12) 136 238 [zI r] M := by
  have hR := wf_R hw
  by_cases h : 0 ≤ r ∧ r < M 139 120
  · obtain ⟨M1, e1, f1, w1, n1, -⟩ := x_explore (d := d + 5) hw hd (by omega)
    have g1 : M1 139 = M 139 := f1 139 (by omega)
    obtain ⟨M2, e2, f2, m2⟩ := m_tellLeft (d := d + 7) (M := M1) (r0 := r) hw g1 h
    have g2 : M2 139 = M 139 := (f2 139 (by decide)).trans g1
    have bg := bgn_rg hw (by omega)
    refine ⟨zI (if wl M1 r = -1 then -104 else wl M1 r), M1, M2, ?_, frr_v f1 (by omega) (by omega), ?_, fm_1 f2 (by omega)⟩
    · rw [en_136, q_136_0, x_hasRoom hd, Cb_I, q_136_8, if_pos (bI_n0.2 h), e1, Cb_V, q_136_25, x_lengthTo hw w1 n1 h, Cb_I, q_136_33]
      by_cases k : wl M1 r = -1
      · rw [if_neg (fun z => z k), if_pos k]
      · rw [if_pos k, if_neg k]
    · rw [en_238, q_238_0, m_isRoom _ (by rw [g1]; exact hR), Cb_I, g1, q_238_5, if_pos (bI_n0.2 h), e2, Cb_V, q_238_16, m_begin (by rw [g2]; exact hw) (by rw [g2]; omega), Cb_I, g2, q_238_24, if_pos (by omega), m_told, Cb_I, q_238_28, wl_f hw w1 m2 h]
  · refine ⟨zI (-101), M, M, ?_, frr_r, ?_, fm_r⟩
    · rw [en_136, q_136_0, x_hasRoom hd, Cb_I, q_136_8, if_neg (fun q => q (bI_0.2 h))]
    · rw [en_238, q_238_0, m_isRoom _ hR, Cb_I, q_238_5, if_neg (fun q => q (bI_0.2 h))]
theorem x_roomOnWay {r k : Int} (hw : WF g) (w : wx (tr g) (bgn g) (g 120) (xS M) (M 128) (M 129) (M 131) (M 125 6)) (hn : M 125 6 ≤ 768) (hr : 0 ≤ r ∧ r < g 120) (hF : M 131 r ≠ -1) (hk : 0 ≤ k ∧ k ≤ M 129 (M 131 r)) (hl : M 129 (M 131 r) ≤ 1000) : E (d + 2) 102 [zR 125, zI r, zI k] M = Rt (some (zI (M 126 (an (M 128) (M 131 r) (M 129 (M 131 r) - k).toNat)))) M := by
  have hR := wf_R hw
  have wl0 : wl M r = M 129 (M 131 r) := if_neg hF
  rw [en_102, q_102_0, if_pos (by omega), x_lengthTo hw w hn hr, Cb_I, q_102_12, wl0]
  refine lpi (fun i (_ : Unit) => Q (d + 1) 102 14 [zR 125, zI r, zI k, zI (an (M 128) (M 131 r) i.toNat), zI (M 129 (M 131 r) - i)] [] M) (fun o => o = Rt (some (zI (M 126 (an (M 128) (M 131 r) (M 129 (M 131 r) - k).toNat)))) M) (M 129 (M 131 r) - k) (fun _ _ => True) ?_ ?_ 0 () (by omega) trivial |> fun z => ?_
  · rw [Int.sub_zero] at z
    exact z
  · intro i _ i0 i1 _
    have a := wx_an w hr hF i.toNat (by omega)
    refine Or.inr ⟨(), ?_, trivial⟩
    rw [q_102_14, if_neg (by omega), if_neg (by omega), if_pos (by omega), zw_id (by omega), toN_s i0, show M 129 (M 131 r) - i + -1 = M 129 (M 131 r) - (i + 1) by omega]
    rfl
  · intro _ _
    have a := wx_an w hr hF (M 129 (M 131 r) - k).toNat (by omega)
    rw [q_102_14, if_pos (by omega), if_pos (by omega), if_pos (by omega)]
/-- the reference's step of a walk -/
theorem m_wstep {N : ZM} {r k v2 v3 : Int} {z6 : ZV} (hw : WF g) (hg : N 139 = g) (w : wx (tr g) (bgn g) (g 120) (xS M) (M 128) (M 129) (M 131) (M 125 6)) (m : wm (tr g) r (g 120) (N 152)) (hr : 0 ≤ r ∧ r < g 120) (hF : M 131 r ≠ -1) (hk : 0 ≤ k ∧ k < M 129 (M 131 r)) (h2 : k < v2) (hl : M 129 (M 131 r) ≤ 1000) : ∃ z, Q (d + 4) 239 55 [zR 138, zI r, zI v2, zI v3, zI (xS M (an (M 128) (M 131 r) (M 129 (M 131 r) - k).toNat)), zI k, z6] [] N = Q (d + 4) 239 55 [zR 138, zI r, zI v2, zI v3, zI (xS M (an (M 128) (M 131 r) (M 129 (M 131 r) - (k + 1)).toNat)), zI (k + 1), z] [] N := by
  have hR := wf_R hw
  obtain ⟨t, ht⟩ : ∃ t : Nat, (t : Int) = M 129 (M 131 r) - (k + 1) := ⟨(M 129 (M 131 r) - (k + 1)).toNat, by omega⟩
  have t1 : (M 129 (M 131 r) - (k + 1)).toNat = t := by omega
  have t2 : (M 129 (M 131 r) - k).toNat = t + 1 := by omega
  obtain ⟨l1, l2, l3⟩ := wx_least w m hr hF (m := t) (by omega)
  have fs1 := wx_f w m hr hF (t + 1) (by omega)
  have fs0 := wx_f w m hr hF t (by omega)
  have a1 := wx_an w hr hF (t + 1) (by omega)
  have a0 := wx_an w hr hF t (by omega)
  have s1 := w.2.2.2.2.2.2 _ a1.1.1 a1.1.2
  have s0 := w.2.2.2.2.2.2 _ a0.1.1 a0.1.2
  rw [t1, t2]
  generalize xS M (an (M 128) (M 131 r) (t + 1)) = s at *
  generalize xS M (an (M 128) (M 131 r) t) = u at *
  rw [q_239_55, if_neg (by omega)]
  have hT := tr_T hw
  have aft : ∀ j, E (d + 4) 235 [zR 138, zI s, zI j] N = Rt (some (zI (tr g s j))) N := fun j => by
    have := m_after (d := d) (M := N) (s := s) (r := j) (by rw [hg]; exact hw) (by omega)
    rw [hg] at this
    exact this
  refine lpi (fun j (_ : Unit) => Q (d + 4) 239 64 [zR 138, zI r, zI v2, zI v3, zI s, zI k, zI j] [] N) (fun o => ∃ z, o = Q (d + 4) 239 55 [zR 138, zI r, zI v2, zI v3, zI u, zI (k + 1), z] [] N) (u / 64) (fun _ _ => True) ?_ ?_ 0 () (by omega) trivial
  · intro j _ j0 j1 _
    refine Or.inr ⟨(), ?_, trivial⟩
    rw [q_239_64, aft, Cb_I, q_239_72]
    by_cases c : tr g s j = -1
    · rw [if_pos c, zw_id (by omega)]
    · have q := (hT s j s1.1 s1.2 j0 (by omega)).resolve_left c
      have no := l3 j j0 j1
      rw [if_neg c, aft, Cb_I, q_239_88, if_pos (by omega), if_pos (by omega), zw_id (x := N 152 s - 1) (by omega), if_neg (fun z => no ⟨c, by omega⟩), zw_id (by omega)]
  · intro _ _
    rw [q_239_64, aft, l2, Cb_I, q_239_72, if_neg (by omega), aft, l2, Cb_I, q_239_88, if_pos (by omega), if_pos (by omega), zw_id (x := N 152 s - 1) (by omega), if_pos (by omega), aft, l2, Cb_I, q_239_115, zw_id (by omega)]
    exact ⟨_, rfl⟩
theorem wl_le {r : Int} (w : wx (tr g) (bgn g) (g 120) (xS M) (M 128) (M 129) (M 131) (M 125 6)) (hn : M 125 6 ≤ 768) (hr : 0 ≤ r ∧ r < g 120) (hF : M 131 r ≠ -1) : 0 ≤ M 129 (M 131 r) ∧ M 129 (M 131 r) ≤ 1000 := by
  have f0 := (w.2.2.2.2.2.1 r hr.1 hr.2).resolve_left (fun z => hF z.1)
  have L0 := (wx_Lp w f0.1.1 f0.1.2).1
  have main : ∀ k : Nat, ∀ i, 0 ≤ i → i < M 125 6 → i ≤ k → M 129 i ≤ i := by
    obtain ⟨w1, ⟨a1, a2, a3⟩, w3, -⟩ := w
    intro k
    induction k with
    | zero =>
      intro i i0 i1 i2
      have e : i = 0 := by omega
      rw [e, a3]
      omega
    | succ k ih =>
      intro i i0 i1 i2
      by_cases e : i = 0
      · rw [e, a3]
        omega
      · obtain ⟨a, b, c⟩ := w3 i (by omega) i1
        have := ih (M 128 i) a.1 (by omega) (by omega)
        omega
  have := main (M 131 r).toNat (M 131 r) f0.1.1 f0.1.2 (by omega)
  omega
theorem o_walkRoom {r k : Int} (hw : WF (M 139)) (hd : dgr M 1 (M 139)) : qok (d + 12) 137 239 [zI r, zI k] M := by
  have hR := wf_R hw
  by_cases h : 0 ≤ r ∧ r < M 139 120
  · obtain ⟨M1, e1, f1, w1, n1, v1⟩ := x_explore (d := d + 5) hw hd (by omega)
    have g1 : M1 139 = M 139 := f1 139 (by omega)
    obtain ⟨M2, e2, f2, m2⟩ := m_tellLeft (d := d + 7) (M := M1) (r0 := r) hw g1 h
    have g2 : M2 139 = M 139 := (f2 139 (by decide)).trans g1
    have bg := bgn_rg hw (by omega)
    have wf := wl_f hw w1 m2 h
    have ex : E (d + 12) 137 [zR 0, zI r, zI k] M = Q (d + 11) 137 33 [zR 0, zI r, zI k, zU] [zI (wl M1 r)] M1 := by
      rw [en_137, q_137_0, x_hasRoom hd, Cb_I, q_137_8, if_pos (bI_n0.2 h), e1, Cb_V, q_137_25, x_lengthTo hw w1 n1 h, Cb_I]
    have bgE : E (d + 11) 236 [zR 138] M2 = Rt (some (zI (bgn (M 139)))) M2 := by
      have := m_begin (d := d + 8) (M := M2) (by rw [g2]; exact hw) (by rw [g2]; omega)
      rw [g2] at this
      exact this
    have em : E (d + 12) 239 [zR 138, zI r, zI k] M1 = if wl M1 r ≠ -1 then (Cb (E (d + 11) 153 [zI k, zI 0, zI (wl M1 r)] M2) (fun v h => zrun (zevl (d + 11)) 239 40 [zR 138, zI r, zI k, zI (wl M1 r), zU, zU, zU] (v.toList ++ []) h)) else Rt (some (zI (-104))) M2 := by
      rw [en_239, q_239_0, m_isRoom _ (by rw [g1]; exact hR), Cb_I, g1, q_239_5, if_pos (bI_n0.2 h), e2, Cb_V, q_239_16, bgE, Cb_I, q_239_24, if_pos (by omega), wf]
    have go : ∀ v : Int, E (d + 12) 137 [zR 0, zI r, zI k] M = Rt (some (zI v)) M1 → E (d + 12) 239 [zR 138, zI r, zI k] M1 = Rt (some (zI v)) M2 → qok (d + 12) 137 239 [zI r, zI k] M := fun v a b => ⟨zI v, M1, M2, a, frr_v f1 (by omega) (by omega), b, fm_1 f2 (by omega)⟩
    by_cases c : M1 131 r = -1
    · have wl1 : wl M1 r = -1 := if_pos c
      rw [wl1] at ex em
      refine go (-104) ?_ ?_
      · rw [ex, q_137_33, if_neg (by decide)]
      · rw [em, if_neg (by decide)]
    · have wl1 : wl M1 r = M1 129 (M1 131 r) := if_neg c
      have lr := wl_le w1 n1 h c
      rw [wl1] at ex em wf
      rw [if_pos (by omega), m_in, Cb_I, q_239_40] at em
      rw [q_137_33, if_pos (by omega)] at ex
      by_cases ks : 0 ≤ k ∧ k ≤ M1 129 (M1 131 r)
      · refine go (M1 126 (an (M1 128) (M1 131 r) (M1 129 (M1 131 r) - k).toNat)) ?_ ?_
        · rw [ex, if_neg (by omega), if_pos ks.2, x_roomOnWay hw w1 n1 h c ks lr.2, Cb_I, q_137_65]
        · rw [em, if_pos (bI_n0.2 ks), bgE, Cb_I, q_239_50]
          have rt : xS M1 (an (M1 128) (M1 131 r) (M1 129 (M1 131 r) - 0).toNat) = bgn (M 139) := by
            rw [Int.sub_zero, wx_root w1 h c]
            exact w1.2.1.1
          have ak := wx_an w1 h c (M1 129 (M1 131 r) - k).toNat (by omega)
          have vk := v1 _ ak.1.1 ak.1.2
          refine lpi (fun i (z : ZV) => Q (d + 11) 239 55 [zR 138, zI r, zI k, zI (M1 129 (M1 131 r)), zI (xS M1 (an (M1 128) (M1 131 r) (M1 129 (M1 131 r) - i).toNat)), zI i, z] [] M2) (fun o => o = Rt (some (zI (M1 126 (an (M1 128) (M1 131 r) (M1 129 (M1 131 r) - k).toNat)))) M2) k (fun _ _ => True) ?_ ?_ 0 zU (by omega) trivial |> fun z => ?_
          · rw [rt] at z
            exact z
          · intro i z i0 i1 _
            obtain ⟨z', e⟩ := m_wstep (d := d + 7) (N := M2) (M := M1) (r := r) (k := i) (v2 := k) (v3 := M1 129 (M1 131 r)) (z6 := z) hw g2 w1 m2 h c (by omega) i1 lr.2
            exact Or.inr ⟨z', e, trivial⟩
          · intro z _
            have s0 : xS M1 (an (M1 128) (M1 131 r) (M1 129 (M1 131 r) - k).toNat) = 64 * M1 126 (an (M1 128) (M1 131 r) (M1 129 (M1 131 r) - k).toNat) + M1 127 (an (M1 128) (M1 131 r) (M1 129 (M1 131 r) - k).toNat) := rfl
            rw [q_239_55, if_pos (Int.le_refl _), Int.tdiv_eq_ediv_of_nonneg (by omega), zw_id (by omega)]
            exact Rt_cg (by omega)
      · refine go (-102) ?_ ?_
        · rw [ex]
          by_cases k0 : k < 0
          · rw [if_pos k0, q_137_65]
          · rw [if_neg k0, if_neg (by omega), q_137_65]
        · rw [em, if_neg (fun q => q (bI_0.2 ks))]
  · refine ⟨zI (-101), M, M, ?_, frr_r, ?_, fm_r⟩
    · rw [en_137, q_137_0, x_hasRoom hd, Cb_I, q_137_8, if_neg (fun q => q (bI_0.2 h))]
    · rw [en_239, q_239_0, m_isRoom _ hR, Cb_I, q_239_5, if_neg (fun q => q (bI_0.2 h))]
def mx2 (f : Int → Int) (n : Int) : Int := its (fun r a => if a < f r then f r else a) 0 n
theorem mx2_s {f : Int → Int} {n : Int} (h : 0 ≤ n) : mx2 f (n + 1) = if mx2 f n < f n then f n else mx2 f n := its_s h
theorem o_criticalLength (hw : WF (M 139)) (hd : dgr M 1 (M 139)) : qok (d + 12) 138 240 [] M := by
  have hR := wf_R hw
  by_cases h0 : M 139 120 = 0
  · refine ⟨zI (-104), M, M, ?_, frr_r, ?_, fm_r⟩
    · rw [en_138, q_138_0, h1R hd, if_neg (by omega)]
    · rw [en_240, q_240_0, if_neg (by omega)]
  · obtain ⟨M1, e1, f1, w1, n1, v1⟩ := x_explore (d := d + 5) hw hd (by omega)
    have g1 : M1 139 = M 139 := f1 139 (by omega)
    have d1 : dgr M1 1 (M 139) := frr_d f1 (by decide) hd
    have bg := bgn_rg hw (by omega)
    have xx : E (d + 12) 138 [zR 0] M = Rt (some (zI (mx2 (wl M1) (M 139 120)))) M1 := by
      rw [en_138, q_138_0, h1R hd, if_pos h0, e1, Cb_V, q_138_24]
      refine lpi (fun i a => Q (d + 11) 138 28 [zR 0, zI a, zI i] [] M1) (fun o => o = Rt (some (zI (mx2 (wl M1) (M 139 120)))) M1) (M 139 120) (fun i a => a = mx2 (wl M1) i) ?_ ?_ 0 0 (by omega) rfl
      · rintro i a i0 i1 rfl
        refine Or.inr ⟨mx2 (wl M1) (i + 1), ?_, rfl⟩
        rw [q_138_28, h1R d1, if_neg (by omega), x_lengthTo hw w1 n1 ⟨i0, i1⟩, Cb_I]
        show Q (d + 11) 138 48 [zR 0, _, _] [zI (wl M1 i), zI (mx2 (wl M1) i)] M1 = _
        rw [q_138_48, zw_id (by omega), mx2_s i0]
      · rintro a rfl
        rw [q_138_28, h1R d1, if_pos (Int.le_refl _)]
    have mm : ∃ M2, E (d + 12) 240 [zR 138] M1 = Rt (some (zI (mx2 (wl M1) (M 139 120)))) M2 ∧ fr1 152 M1 M2 := by
      rw [en_240, q_240_0, g1, if_pos h0]
      refine lpi (fun i (s : ZM × Int) => Q (d + 11) 240 17 [zR 138, zI s.2, zI i] [] s.1) (fun o => ∃ M2, o = Rt (some (zI (mx2 (wl M1) (M 139 120)))) M2 ∧ fr1 152 M1 M2) (M 139 120) (fun i s => fr1 152 M1 s.1 ∧ s.2 = mx2 (wl M1) i) ?_ ?_ 0 (M1, 0) (by omega) ⟨fr1_r, rfl⟩
      · rintro i ⟨N, a⟩ i0 i1 ⟨fN, ha⟩
        dsimp only at fN ha ⊢
        have gN : N 139 = M 139 := (fN 139 (by decide)).trans g1
        obtain ⟨N2, e2, f2, m2⟩ := m_tellLeft (d := d + 7) (M := N) (r0 := i) hw gN ⟨i0, i1⟩
        have g2 : N2 139 = M 139 := (f2 139 (by decide)).trans gN
        have wf := wl_f hw w1 m2 ⟨i0, i1⟩
        have bgE : E (d + 11) 236 [zR 138] N2 = Rt (some (zI (bgn (M 139)))) N2 := by
          have := m_begin (d := d + 8) (M := N2) (by rw [g2]; exact hw) (by rw [g2]; omega)
          rw [g2] at this
          exact this
        refine Or.inr ⟨(N2, mx2 (wl M1) (i + 1)), ?_, fr1_t fN f2, rfl⟩
        dsimp only
        rw [q_240_17, gN, if_neg (by omega), e2, Cb_V, q_240_33, bgE, Cb_I, q_240_41, if_pos (by omega), wf, zw_id (by omega), mx2_s i0, ← ha]
        by_cases k : a < wl M1 i
        · rw [if_neg (by omega), bgE, Cb_I, q_240_54, if_pos (by omega), wf, zw_id (by omega), if_pos k]
        · rw [if_pos (by omega), if_neg k]
      · rintro ⟨N, a⟩ ⟨fN, ha⟩
        dsimp only at fN ha ⊢
        refine ⟨N, ?_, fN⟩
        rw [q_240_17, fN 139 (by decide), g1, if_pos (Int.le_refl _), ha]
    obtain ⟨M2, e2, f2⟩ := mm
    exact ⟨zI (mx2 (wl M1) (M 139 120)), M1, M2, xx, frr_v f1 (by omega) (by omega), e2, fm_1 f2 (by omega)⟩
end
