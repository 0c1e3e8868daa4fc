/-! removeRoom -/
section
variable {d : Nat} {M : ZM} {g G : Int → Int}
theorem m_cutAll {r : Int} (hw : WF g) (hg : M 139 = g) : ∃ M' G, Q (d + 2) 179 25 [zR 138, zI r, zI (g 121 - 1), zU] [] M = Q (d + 2) 179 62 [zR 138, zI r, zI 0, zU] [] M' ∧ fr1 139 M M' ∧ M' 139 = G ∧ cutP g r 0 G := by
  have hW := wf_W hw
  refine lpi (fun i (M1 : ZM) => Q (d + 2) 179 25 [zR 138, zI r, zI (g 121 - 1 - i), zU] [] M1) (fun o => ∃ M' G, o = Q (d + 2) 179 62 [zR 138, zI r, zI 0, zU] [] M' ∧ fr1 139 M M' ∧ M' 139 = G ∧ cutP g r 0 G) (g 121) (fun i M1 => fr1 139 M M1 ∧ cutP g r (g 121 - i) (M1 139)) ?_ ?_ 0 M (by omega) ⟨fr1_r, by rw [hg, Int.sub_zero]; exact cutP_i _ rfl⟩ |> fun z => ?_
  · rw [Int.sub_zero] at z
    exact z
  · rintro i M1 i0 i1 ⟨f1, c1⟩
    have hc : 0 ≤ g 121 - 1 - i ∧ g 121 - 1 - i < g 121 := by omega
    rw [show g 121 - i = g 121 - 1 - i + 1 by omega] at c1
    have same := c1.2.2.1 (g 121 - 1 - i) hc.1 (by omega)
    have nx : g 121 - (i + 1) = g 121 - 1 - i := by omega
    refine Or.inr ?_
    rw [q_179_25, if_neg (by omega), m_a (by omega), Cb_I, q_179_35, same.1, nx, show g 121 - 1 - (i + 1) = g 121 - 1 - i + -1 by omega]
    by_cases k : eds g (g 121 - 1 - i) r
    · obtain ⟨y1, y2, y3⟩ := cutP_y c1 hw hc k
      obtain ⟨M2, e2, f2, g2⟩ := m_cuts (d := d + 1) (M := M1) y3 ⟨hc.1, y2⟩ rfl
      refine ⟨M2, ?_, fr1_t f1 f2, by rw [g2]; exact y1⟩
      by_cases l : gA g (g 121 - 1 - i) = r
      · rw [if_pos l, e2, Cb_V, q_179_54, zw_id (by omega)]
      · rw [if_neg l, m_b (by omega), Cb_I, q_179_45, same.2.1, if_neg (fun q => q (k.resolve_left l)), e2, Cb_V, q_179_54, zw_id (by omega)]
    · refine ⟨M1, ?_, f1, cutP_n c1 hc k⟩
      have k1 : gA g (g 121 - 1 - i) ≠ r := fun q => k (Or.inl q)
      have k2 : gB g (g 121 - 1 - i) ≠ r := fun q => k (Or.inr q)
      rw [if_neg k1, m_b (by omega), Cb_I, q_179_45, same.2.1, if_pos k2, q_179_54, zw_id (by omega)]
  · rintro M1 ⟨f1, c1⟩
    rw [Int.sub_self] at c1
    exact ⟨M1, M1 139, by rw [q_179_25, if_pos (by omega)], f1, rfl, c1⟩
theorem RA_s {r i : Int} (hi : 0 ≤ i) : up1 (up1 (RA G r (60 + 3 * i)) (60 + 3 * i + 0) (rn r (gA G i))) (60 + 3 * i + 1) (rn r (gB G i)) = RA G r (60 + 3 * (i + 1)) := funext fun k => by
  by_cases e1 : k = 60 + 3 * i + 1
  · subst e1
    rw [up1_s]
    unfold RA
    rw [if_pos (by omega)]
    rfl
  · rw [up1_n e1]
    by_cases e0 : k = 60 + 3 * i + 0
    · subst e0
      rw [up1_s]
      unfold RA
      rw [if_pos (by omega)]
      rfl
    · rw [up1_n e0]
      unfold RA
      by_cases l : (60 ≤ k ∧ k < 60 + 3 * i) ∧ (k - 60) % 3 ≠ 2
      · rw [if_pos l, if_pos (by omega)]
      · rw [if_neg l, if_neg (by omega)]
theorem RB_s {H : Int → Int} {j k : Int} (h : j ≤ k) : up1 (RB H j k) k (H (k + 5)) = RB H j (k + 1) := funext fun i => by
  by_cases e : i = k
  · subst e
    rw [up1_s]
    unfold RB
    rw [if_pos (by omega)]
  · rw [up1_n e]
    unfold RB
    by_cases l : j ≤ i ∧ i < k
    · rw [if_pos l, if_pos (by omega)]
    · rw [if_neg l, if_neg (by omega)]
theorem m_renum {r : Int} {z3 : ZV} (hw : WF G) (hr : 0 ≤ r ∧ r < G 120) (hg : M 139 = G) : ∃ M' z2 z3', Q (d + 2) 179 62 [zR 138, zI r, zI 0, z3] [] M = Q (d + 2) 179 226 [zR 138, zI r, zI z2, z3'] [zI (if G 122 = r then 0 else rn r (G 122)), zI 122, zR 139] M' ∧ fr1 139 M M' ∧ M' 139 = RB (up1 (RA G r (60 + 3 * G 121)) 120 (G 120 - 1)) (5 * r) (5 * (G 120 - 1)) := by
  have hR := wf_R hw
  have hW := wf_W hw
  have hE := wf_E hw
  refine lpi (fun i (s : ZM × ZV) => Q (d + 2) 179 62 [zR 138, zI r, zI i, s.2] [] s.1) (fun o => ∃ M' z2 z3', o = Q (d + 2) 179 226 [zR 138, zI r, zI z2, z3'] [zI (if G 122 = r then 0 else rn r (G 122)), zI 122, zR 139] M' ∧ fr1 139 M M' ∧ M' 139 = RB (up1 (RA G r (60 + 3 * G 121)) 120 (G 120 - 1)) (5 * r) (5 * (G 120 - 1))) (G 121) (fun i s => fr1 139 M s.1 ∧ s.1 139 = RA G r (60 + 3 * i)) ?_ ?_ 0 (M, z3) (by omega) ⟨fr1_r, ?_⟩
  · rintro i ⟨M1, z⟩ i0 i1 ⟨f1, a1⟩
    dsimp only at f1 a1 ⊢
    have hab := wf_ab hw ⟨i0, i1⟩
    have n121 : M1 139 121 = G 121 := by
      rw [a1]
      unfold RA
      rw [if_neg (by omega)]
    have v0 : M1 139 (60 + 3 * i + 0) = gA G i := by
      rw [a1]
      unfold RA
      rw [if_neg (by omega)]
      rfl
    have v1 : M1 139 (60 + 3 * i + 1) = gB G i := by
      rw [a1]
      unfold RA
      rw [if_neg (by omega)]
      rfl
    have z0 : zw (zw (60 + zw (3 * i)) + 0) = 60 + 3 * i + 0 := by unfold zw; omega
    have z1 : zw (zw (60 + zw (3 * i)) + 1) = 60 + 3 * i + 1 := by unfold zw; omega
    generalize hM2 : zwr M1 139 (60 + 3 * i + 0) (rn r (gA G i)) = M2
    have w1 : M2 139 (60 + 3 * i + 1) = gB G i := by rw [← hM2, zwr_nj (by omega)]; exact v1
    have step0 : Q (d + 2) 179 75 [zR 138, zI r, zI i, zI 0] [] M1 = Q (d + 2) 179 75 [zR 138, zI r, zI i, zI 1] [] M2 := by
      rw [q_179_75, if_neg (by omega), z0, if_pos (by omega), m_way i 0 (by omega) (by omega), Cb_I, q_179_100, v0]
      have c := rn_c r (gA G i)
      by_cases k : gA G i ≤ r
      · rw [if_pos k, if_pos (by omega), zw_id (x := gA G i - 0) (by omega), show gA G i - 0 = rn r (gA G i) by omega, hM2]
        rfl
      · rw [if_neg k, if_pos (by omega), zw_id (x := gA G i - 1) (by omega), show gA G i - 1 = rn r (gA G i) by omega, hM2]
        rfl
    have step1 : Q (d + 2) 179 75 [zR 138, zI r, zI i, zI 1] [] M2 = Q (d + 2) 179 75 [zR 138, zI r, zI i, zI 2] [] (zwr M2 139 (60 + 3 * i + 1) (rn r (gB G i))) := by
      rw [q_179_75, if_neg (by omega), z1, if_pos (by omega), m_way i 1 (by omega) (by omega), Cb_I, q_179_100, w1]
      have c := rn_c r (gB G i)
      by_cases k : gB G i ≤ r
      · rw [if_pos k, if_pos (by omega), zw_id (x := gB G i - 0) (by omega), show gB G i - 0 = rn r (gB G i) by omega]
        rfl
      · rw [if_neg k, if_pos (by omega), zw_id (x := gB G i - 1) (by omega), show gB G i - 1 = rn r (gB G i) by omega]
        rfl
    refine Or.inr ⟨(zwr M2 139 (60 + 3 * i + 1) (rn r (gB G i)), zI 2), ?_, ?_, ?_⟩
    · rw [q_179_62, n121, if_neg (by omega), step0, step1, q_179_75, if_pos (Int.le_refl _), zw_id (by omega)]
    · dsimp only
      rw [← hM2]
      exact fr1_w (fr1_w f1)
    · dsimp only
      rw [← hM2, zwr_u, zwr_u, a1]
      exact RA_s i0
  · rintro ⟨M1, z⟩ ⟨f1, a1⟩
    dsimp only at f1 a1 ⊢
    have n121 : M1 139 121 = G 121 := by
      rw [a1]
      unfold RA
      rw [if_neg (by omega)]
    have n120 : M1 139 120 = G 120 := by
      rw [a1]
      unfold RA
      rw [if_neg (by omega)]
    rw [q_179_62, n121, if_pos (Int.le_refl _), n120, zw_id (x := 5 * r) (by omega), zw_id (x := G 120 - 1) (by omega)]
    generalize hH : up1 (RA G r (60 + 3 * G 121)) 120 (G 120 - 1) = H
    have H120 : H 120 = G 120 - 1 := by rw [← hH, up1_s]
    have H122 : H 122 = G 122 := by
      rw [← hH, up1_n (by omega)]
      unfold RA
      rw [if_neg (by omega)]
    have B : ∀ k i, 5 * r ≤ k → 60 ≤ i → k ≤ 60 → RB H (5 * r) k i = H i := fun k i k0 i0 k1 => if_neg (by omega)
    refine lpi (fun i (M2 : ZM) => Q (d + 2) 179 138 [zR 138, zI r, zI (5 * r + i), z] [] M2) (fun o => ∃ M' z2 z3', o = Q (d + 2) 179 226 [zR 138, zI r, zI z2, z3'] [zI (if G 122 = r then 0 else rn r (G 122)), zI 122, zR 139] M' ∧ fr1 139 M M' ∧ M' 139 = RB H (5 * r) (5 * (G 120 - 1))) (5 * (G 120 - 1) - 5 * r) (fun i M2 => fr1 139 M M2 ∧ M2 139 = RB H (5 * r) (5 * r + i)) ?_ ?_ 0 (zwr M1 139 120 (G 120 - 1)) (by omega) ⟨fr1_w f1, ?_⟩ |> fun z => ?_
    · rw [Int.add_zero] at z
      exact z
    · rintro i M2 i0 i1 ⟨f2, a2⟩
      have z0 : zw (0 + (5 * r + i)) = 5 * r + i := by unfold zw; omega
      have m120 : M2 139 120 = G 120 - 1 := by rw [a2, B _ _ (by omega) (by omega) (by omega), H120]
      have src : M2 139 (5 * r + i + 5) = H (5 * r + i + 5) := by
        rw [a2]
        exact if_neg (by omega)
      refine Or.inr ⟨zwr M2 139 (5 * r + i) (H (5 * r + i + 5)), ?_, fr1_w f2, ?_⟩
      · rw [q_179_138, m120, zw_id (x := 5 * (G 120 - 1)) (by omega), if_neg (by omega), z0, zw_id (x := 5 * r + i + 5) (by omega), if_pos (by omega), if_pos (by omega), src, zw_id (by omega), Int.add_assoc (5 * r) i 1]
      · rw [zwr_u, a2, RB_s (by omega), Int.add_assoc (5 * r) i 1]
    · rintro M2 ⟨f2, a2⟩
      rw [show 5 * r + (5 * (G 120 - 1) - 5 * r) = 5 * (G 120 - 1) by omega] at a2 ⊢
      have m120 : M2 139 120 = G 120 - 1 := by rw [a2, B _ _ (by omega) (by omega) (by omega), H120]
      have m122 : M2 139 122 = G 122 := by rw [a2, B _ _ (by omega) (by omega) (by omega), H122]
      refine ⟨M2, 5 * (G 120 - 1), z, ?_, f2, a2⟩
      rw [q_179_138, m120, zw_id (x := 5 * (G 120 - 1)) (by omega), if_pos (Int.le_refl _), m122]
      by_cases k : G 122 = r
      · rw [if_neg (fun q => q k), if_pos k]
      · rw [if_pos k, if_neg k]
        have c := rn_c r (G 122)
        by_cases l : G 122 ≤ r
        · rw [if_pos l, show rn r (G 122) = G 122 by omega]
        · rw [if_neg l, zw_id (by omega), show rn r (G 122) = G 122 - 1 by omega]
    · rw [zwr_u, a1, hH]
      funext i
      unfold RB
      rw [if_neg (by omega)]
  · dsimp only
    rw [hg]
    funext i
    unfold RA
    rw [if_neg (by omega)]
theorem o_removeRoom {S : Int → Int} {r : Int} (hr : RL S M) : uok (d + 12) 109 179 [zI r] S M := by
  have h' := hr
  obtain ⟨h1, h2, h3, h4, h5, h6⟩ := hr
  have hR := wf_R h2
  have hW := wf_W h2
  have sl := slo_rg (M 19 1)
  obtain ⟨Ma, ea, fa, da⟩ := x_prepare (d := d + 8) h4.1 h2 h3
  have da1 : dgr Ma 1 (M 139) := dgr_cg (fun b b0 b1 => fa b (by omega)) h3
  have a39 : Ma 139 = M 139 := fa 139 (by omega)
  have a19 : Ma 19 = M 19 := fa 19 (by omega)
  by_cases hc : 0 ≤ r ∧ r < M 139 120
  · -- what is left, by the reference's cuts of the row
    obtain ⟨M0, G, -, -, -, cut⟩ := m_cutAll (d := 0) (M := M) (r := r) h2 rfl
    have hG := cut_WF cut h2
    have e120 : G 120 = M 139 120 := cut.1 _ (by omega) (by omega)
    have hGR := wf_R hG
    have hGW := wf_W hG
    obtain ⟨n0, n1, n2, n3⟩ := dr_n (G := G) (r := r) hGR hGW.2
    obtain ⟨Mb, eb, fb, db⟩ := x_dropRoom (d := d + 7) h2 da1 hc cut
    have b19 : Mb 19 = M 19 := (fb 19 (by omega)).trans a19
    have hb1 : 0 ≤ Mb 19 1 ∧ Mb 19 1 < 7 := by rw [b19]; exact h4.1
    have hb2 : 0 ≤ Mb 19 2 ∧ Mb 19 2 ≤ 6 := by rw [b19, h4.2.2.1]; exact h4.2.1
    have c39 : cmx Mb 139 = M 139 := ((cmx_n (by decide)).trans (fb 139 (by omega))).trans a39
    obtain ⟨Md, ed, fd, ad⟩ := m_remembers (d := d + 10) (M := cmx Mb)
    have d39 : Md 139 = M 139 := (fd 139 (by decide)).trans c39
    obtain ⟨Me, G2, ee, fe, ge, cut2⟩ := m_cutAll (d := d + 9) (M := Md) (r := r) h2 d39
    obtain ⟨Mg, y2, y3, eg, fg, gg⟩ := m_renum (d := d + 9) (M := Me) (r := r) (z3 := zU) (cut_WF cut2 h2) (by rw [cut2.1 120 (by omega) (by omega)]; exact hc) ge
    generalize hMh : zwr Mg 139 122 (if G2 122 = r then 0 else rn r (G2 122)) = Mh
    have gh : Mh 139 = drG G2 r := by
      rw [← hMh, zwr_u, gg]
      rfl
    have fh' : fr1 139 Md Mh := by
      rw [← hMh]
      exact fr1_w (fr1_t fe fg)
    have e2 : Mh 138 2 = M 138 2 := by rw [fh' 138 (by decide), fd 138 (by decide), cmx_n (by decide), fb 138 (by omega), fa 138 (by omega)]
    obtain ⟨Mf, ef, ff, hf⟩ := m_changes (d := d + 10) (M := Mh) (by rw [e2]; exact h4.2.1)
    have e120' : G2 120 = M 139 120 := cut2.1 _ (by omega) (by omega)
    obtain ⟨p0, p1, p2, p3⟩ := dr_n (G := G2) (r := r) (wf_R (cut_WF cut2 h2)) (wf_W (cut_WF cut2 h2)).2
    -- both cuts come to the same dungeon
    have db2 : dgr Mb 1 (drG G2 r) := by
      obtain ⟨Mb2, eb2, fb2, db2⟩ := x_dropRoom (d := d + 7) h2 da1 hc cut2
      have := eb2.symm.trans eb
      unfold Rt at this
      have e : Mb2 = Mb := by injection this with a; injection a with b c; injection c
      rw [← e]
      exact db2
    refine ⟨zI (M 139 120 - 1), cmx Mb, Mf, ?_, ?_, ?_⟩
    · rw [en_109, q_109_0, ea, Cb_V, q_109_11, eb, Cb_I, q_109_20, x_settled hb1 hb2, Cb_I, q_109_23, if_neg (by omega)]
    · rw [en_179, q_179_0, m_isRoom _ (by rw [c39]; exact hR), Cb_I, c39, q_179_5, if_pos (bI_n0.2 hc), ed, Cb_V, q_179_15, d39, zw_id (x := M 139 121 - 1) (by omega), ee, eg, q_179_226, if_pos (by decide), hMh, ef, Cb_V, q_179_231, ff.1 139 (by decide) (by decide), gh, p0, e120']
    · have m42 : ∀ i, 0 ≤ i → i < 124 → Mh 142 i = M 139 i := fun i i0 i1 => by rw [fh' 142 (by decide), ad i i0 i1, c39]
      exact RL_chg (Md := Mh) h' fa da (fxs_9 fb) (fms_t (fms_1 fd (by omega)) (fms_1 fh' (by omega))) ff ⟨hf.1, fun i i0 i1 => ⟨(hf.2 i i0 i1).1, (hf.2 i i0 i1).2.trans (m42 i i0 i1)⟩⟩ (by rw [gh]; exact dr_WF cut2 h2 hc) (by rw [gh]; exact db2)
  · refine ⟨zI (-101), Ma, Ma, ?_, ?_, RL_nop h' fa frr_r fm_r⟩
    · rw [en_109, q_109_0, ea, Cb_V, q_109_11, en_25, q_25_0, x_hasRoom da1, Cb_I, q_25_5, if_neg (fun q => q (bI_0.2 hc)), Cb_I, q_109_20, x_settled (by rw [a19]; exact h4.1) (by rw [a19, h4.2.2.1]; exact h4.2.1), Cb_I, q_109_23, if_pos (by decide)]
    · rw [en_179, q_179_0, m_isRoom _ (by rw [a39]; exact hR), Cb_I, a39, q_179_5, if_neg (fun q => q (bI_0.2 hc))]
end
