/-! the calls that change the dungeon by one step; undo, save, restore -/
section
variable {d : Nat} {M : ZM}
theorem upd_core {S : Int → Int} {b : Prop} {kx km : Nat} {as : List ZV} (h : RL S M) (ed : edt b kx km as (M 139)) : ∃ v Ma Mb Mc Md Me Mf, E (d + 11) 65 [zR 19, zR 1] M = Rt none Ma ∧ E (d + 11) kx (zR 1 :: as) Ma = Rt (some (zI v)) Mb ∧ (0 ≤ Mb 19 1 ∧ Mb 19 1 < 7) ∧ (0 ≤ Mb 19 2 ∧ Mb 19 2 ≤ 6) ∧ (if v < 0 ∧ v ≠ -104 then Mb else cmx Mb) = Mc ∧ (b → (if v < 0 then Mb else cmx Mb) = Mc) ∧ E (d + 11) 162 [zR 138] Mc = Rt none Md ∧ E (d + 11) km (zR 138 :: as) Md = Rt (some (zI v)) Me ∧ E (d + 11) 164 [zR 138, zI v] Me = Rt (some (zI v)) Mf ∧ (0 ≤ v → E (d + 11) 163 [zR 138] Me = Rt none Mf) ∧ (v < 0 → v ≠ -104 → Me = Mf) ∧ RL S Mf := by
  obtain ⟨h1, h2, h3, h4, h5, h6⟩ := h
  obtain ⟨v, g', wf', same, nb, X, Y⟩ := ed
  have z := zSC_b
  have sl := slo_rg (M 19 1)
  obtain ⟨Ma, ea, fa, da⟩ := x_prepare (d := d + 8) h4.1 h2 h3
  obtain ⟨Mb, eb, fb, db⟩ := X (d + 3) Ma (dgr_cg (fun c c0 c1 => fa c (by omega)) h3)
  have b19 : Mb 19 = M 19 := (fb 19 (by omega)).trans (fa 19 (by omega))
  have hb1 : 0 ≤ Mb 19 1 ∧ Mb 19 1 < 7 := by rw [b19]; exact h4.1
  have hb2 : 0 ≤ Mb 19 2 ∧ Mb 19 2 ≤ 6 := by rw [b19, h4.2.2.1]; exact h4.2.1
  generalize hMc : (if v < 0 ∧ v ≠ -104 then Mb else cmx Mb) = Mc
  have cb : ∀ c, c ≠ 19 → Mc c = Mb c := fun c hc => by
    rw [← hMc]
    split
    · rfl
    · exact cmx_n hc
  have cM : ∀ c, c ≠ 19 → (c < 1 ∨ 9 < c) → (c < slo (M 19 1) ∨ slo (M 19 1) + 8 < c) → Mc c = M c := fun c p q r => ((cb c p).trans (fb c q)).trans (fa c r)
  obtain ⟨Md, ed, fd, ad⟩ := m_remembers (d := d + 10) (M := Mc)
  have d39 : Md 139 = M 139 := (fd 139 (by omega)).trans (cM 139 (by omega) (by omega) (by omega))
  obtain ⟨Me, ee, fe, e39⟩ := Y (d + 3) Md d39
  have eM : ∀ c, c ≠ 19 → (c < 1 ∨ 9 < c) → (c < slo (M 19 1) ∨ slo (M 19 1) + 8 < c) → c ≠ 139 → c ≠ 142 → Me c = M c := fun c p q r s t => ((fe c s).trans (fd c t)).trans (cM c p q r)
  have eD : ∀ c, 1 ≤ c → c ≤ 9 → Me c = Mb c := fun c p q => ((fe c (by omega)).trans (fd c (by omega))).trans (cb c (by omega))
  have eS : ∀ c, slo (M 19 1) ≤ c → c ≤ slo (M 19 1) + 8 → Me c = Ma c := fun c p q => (((fe c (by omega)).trans (fd c (by omega))).trans (cb c (by omega))).trans (fb c (by omega))
  have e38 : Me 138 = M 138 := eM 138 (by omega) (by omega) (by omega) (by omega) (by omega)
  have e40 : Me 140 = M 140 := eM 140 (by omega) (by omega) (by omega) (by omega) (by omega)
  have e19 : Me 19 = Mc 19 := (fe 19 (by omega)).trans (fd 19 (by omega))
  have bn : b → (if v < 0 then Mb else cmx Mb) = Mc := fun q => by
    rw [← hMc]
    by_cases k : v < 0
    · rw [if_pos k, if_pos ⟨k, nb q⟩]
    · rw [if_neg k, if_neg (fun z => k z.1)]
  by_cases k : v < 0 ∧ v ≠ -104
  · refine ⟨v, Ma, Mb, Mc, Md, Me, Me, ea, eb, hb1, hb2, hMc, bn, ed, ee, ?_, fun q => by omega, fun _ _ => rfl, ?_⟩
    · rw [en_164, q_164_0, if_neg (by omega), if_pos k.2, q_164_14]
    · have gg := same k.1 k.2
      have c19 : Mc 19 = M 19 := by rw [← hMc, if_pos k]; exact b19
      refine ⟨(eM zSC (by omega) (by omega) (by omega) (by omega) (by omega)).trans h1, by rw [e39]; exact wf', by rw [e39]; exact dgr_cg (fun c c0 c1 => eD c (by omega) (by omega)) db, ?_, ?_, ?_⟩
      · exact HI_0 h4 ⟨e19.trans c19, fun c p q => eM c (by omega) (by omega) q (by omega) (by omega)⟩ ⟨by rw [e38], e40⟩
      · exact SV_cg h5 (eM 0 (by omega) (by omega) (by omega) (by omega) (by omega)) (fun c p q => eM c (by omega) (by omega) (by omega) (by omega) (by omega)) (by rw [e38]) (eM 141 (by omega) (by omega) (by omega) (by omega) (by omega))
      · exact TX_cg h6 (eM 84 (by omega) (by omega) (by omega) (by omega) (by omega)) (eM 85 (by omega) (by omega) (by omega) (by omega) (by omega)) (by rw [e38]) (eM 148 (by omega) (by omega) (by omega) (by omega) (by omega)) (by rw [e38])
  · obtain ⟨Mf, ef, ff, hf⟩ := m_changes (d := d + 9) (M := Me) (by rw [e38]; exact h4.2.1)
    have c19 : Mc 19 = cmx Mb 19 := by rw [← hMc, if_neg k]
    refine ⟨v, Ma, Mb, Mc, Md, Me, Mf, ea, eb, hb1, hb2, hMc, bn, ed, ee, ?_, fun _ => zevl_succ _ _ _ _ _ ef, fun q r => absurd ⟨q, r⟩ k, ?_⟩
    · rw [en_164, q_164_0]
      by_cases l : 0 ≤ v
      · rw [if_pos l, ef, Cb_V, q_164_14]
      · rw [if_neg l, if_neg (by omega), ef, Cb_V, q_164_14]
    · have fM : ∀ c, c ≠ 138 → c ≠ 140 → Mf c = Me c := ff.1
      have f19 : Mf 19 = cmx Mb 19 := ((fM 19 (by omega) (by omega)).trans e19).trans c19
      have n1 : cmx Mb 19 1 = (M 19 1 + 1) % 7 := by
        unfold cmx
        rw [zwr_nj (by decide), zwr_at, b19]
      have n2 : cmx Mb 19 2 = (if 6 < M 19 2 + 1 then 6 else M 19 2 + 1) := by
        unfold cmx
        rw [zwr_at, b19]
      have f39 : Mf 139 = g' := (fM 139 (by omega) (by omega)).trans e39
      refine ⟨((fM zSC (by omega) (by omega)).trans (eM zSC (by omega) (by omega) (by omega) (by omega) (by omega))).trans h1, by rw [f39]; exact wf', by rw [f39]; exact dgr_cg (fun c c0 c1 => (fM c (by omega) (by omega)).trans (eD c (by omega) (by omega))) db, ?_, ?_, ?_⟩
      · refine HI_1 (g0 := M 139) h4 ⟨by rw [f19, n1], by rw [f19, n2], fun c p q => (fM c (by omega) (by omega)).trans (eM c (by omega) (by omega) q (by omega) (by omega)), h2, dgr_cg (fun c c0 c1 => (fM c (by omega) (by omega)).trans (eS c c0 (by omega))) da⟩ ?_
        obtain ⟨m1, m2⟩ := hf
        rw [e38] at m1
        refine ⟨m1, fun i i0 i1 => ?_⟩
        obtain ⟨p, q⟩ := m2 i i0 i1
        rw [e38, e40] at p
        refine ⟨p, q.trans ?_⟩
        rw [fe 142 (by omega), ad i i0 i1, cM 139 (by omega) (by omega) (by omega)]
      · exact SV_cg h5 ((fM 0 (by omega) (by omega)).trans (eM 0 (by omega) (by omega) (by omega) (by omega) (by omega))) (fun c p q => (fM c (by omega) (by omega)).trans (eM c (by omega) (by omega) (by omega) (by omega) (by omega))) (by rw [ff.2 4 (by decide), e38]) ((fM 141 (by omega) (by omega)).trans (eM 141 (by omega) (by omega) (by omega) (by omega) (by omega)))
      · exact TX_cg h6 ((fM 84 (by omega) (by omega)).trans (eM 84 (by omega) (by omega) (by omega) (by omega) (by omega))) ((fM 85 (by omega) (by omega)).trans (eM 85 (by omega) (by omega) (by omega) (by omega) (by omega))) (by rw [ff.2 17 (by decide), e38]) ((fM 148 (by omega) (by omega)).trans (eM 148 (by omega) (by omega) (by omega) (by omega) (by omega))) (by rw [ff.2 18 (by decide), e38])
theorem o_addRoom {S : Int → Int} {x y w h : Int} (hr : RL S M) : uok (d + 12) 104 174 [zI x, zI y, zI w, zI h] S M := by
  obtain ⟨v, Ma, Mb, Mc, Md, Me, Mf, ea, eb, r1, r2, -, hc, ed, ee, ef, -, -, rl⟩ := upd_core (d := d) hr (e_room hr.2.1 x y w h)
  refine ⟨zI v, Mc, Mf, ?_, ?_, rl⟩
  · rw [en_104, q_104_0, ea, Cb_V, q_104_11, eb, Cb_I, q_104_24, x_settled r1 r2, Cb_I, q_104_27, hc trivial]
  · rw [en_174, q_174_0, ed, Cb_V, q_174_4, ee, Cb_I, q_174_14, ef, Cb_I, q_174_17]
theorem o_addCorridor {S : Int → Int} {x y : Int} (hr : RL S M) : uok (d + 12) 105 175 [zI x, zI y] S M := by
  obtain ⟨v, Ma, Mb, Mc, Md, Me, Mf, ea, eb, r1, r2, -, hc, ed, ee, ef, -, -, rl⟩ := upd_core (d := d) hr (e_cor hr.2.1 x y)
  refine ⟨zI v, Mc, Mf, ?_, ?_, rl⟩
  · rw [en_105, q_105_0, ea, Cb_V, q_105_11, eb, Cb_I, q_105_21, x_settled r1 r2, Cb_I, q_105_24, hc trivial]
  · rw [en_175, q_175_0, ed, Cb_V, q_175_4, ee, Cb_I, q_175_11, ef, Cb_I, q_175_14]
theorem o_setLock {S : Int → Int} {x y : Int} (hr : RL S M) : uok (d + 12) 106 176 [zI x, zI y] S M := by
  obtain ⟨v, Ma, Mb, Mc, Md, Me, Mf, ea, eb, r1, r2, hc, -, ed, ee, ef, -, -, rl⟩ := upd_core (d := d) hr (e_lock hr.2.1 x y)
  refine ⟨zI v, Mc, Mf, ?_, ?_, rl⟩
  · rw [en_106, q_106_0, ea, Cb_V, q_106_11, eb, Cb_I, q_106_21, x_recolored r1 r2, Cb_I, q_106_24, hc]
  · rw [en_176, q_176_0, ed, Cb_V, q_176_4, ee, Cb_I, q_176_11, ef, Cb_I, q_176_14]
theorem o_setKey {S : Int → Int} {x y : Int} (hr : RL S M) : uok (d + 12) 107 177 [zI x, zI y] S M := by
  obtain ⟨v, Ma, Mb, Mc, Md, Me, Mf, ea, eb, r1, r2, hc, -, ed, ee, ef, -, -, rl⟩ := upd_core (d := d) hr (e_key hr.2.1 x y)
  refine ⟨zI v, Mc, Mf, ?_, ?_, rl⟩
  · rw [en_107, q_107_0, ea, Cb_V, q_107_11, eb, Cb_I, q_107_21, x_recolored r1 r2, Cb_I, q_107_24, hc]
  · rw [en_177, q_177_0, ed, Cb_V, q_177_4, ee, Cb_I, q_177_11, ef, Cb_I, q_177_14]
theorem o_setEntrance {S : Int → Int} {x : Int} (hr : RL S M) : uok (d + 12) 108 178 [zI x] S M := by
  obtain ⟨v, Ma, Mb, Mc, Md, Me, Mf, ea, eb, r1, r2, -, hc, ed, ee, ef, -, -, rl⟩ := upd_core (d := d) hr (e_ent hr.2.1 x)
  refine ⟨zI v, Mc, Mf, ?_, ?_, rl⟩
  · rw [en_108, q_108_0, ea, Cb_V, q_108_11, eb, Cb_I, q_108_20, x_settled r1 r2, Cb_I, q_108_23, hc trivial]
  · rw [en_178, q_178_0, ed, Cb_V, q_178_4, ee, Cb_I, q_178_10, ef, Cb_I, q_178_13]
/-- copying a row -/
theorem o_save {S : Int → Int} (hr : RL S M) : uok (d + 12) 143 245 [] S M := by
  obtain ⟨h1, h2, h3, h4, h5, h6⟩ := hr
  have z := zSC_b
  obtain ⟨Ma, ea, fa, da⟩ := x_become (d := d + 9) (D := 10) (F := 1) zDn_10 zDn_1 (by decide) h2 h3
  have a39 : Ma 139 = M 139 := fa 139 (by omega)
  have a1 : Ma 1 = M 1 := fa 1 (by omega)
  have m : ∃ M', E (d + 12) 245 [zR 138] (zwr Ma 0 9 1) = Rt (some (zI (M 139 120))) M' ∧ (∀ b, b ≠ 138 → b ≠ 141 → M' b = zwr Ma 0 9 1 b) ∧ (∀ f, f ≠ 4 → M' 138 f = M 138 f) ∧ M' 138 4 = 1 ∧ agr 124 (M' 141) (M 139) := by
    rw [en_245, q_245_0]
    refine lpi (fun i (M1 : ZM) => Q (d + 11) 245 7 [zR 138, zI i] [] M1) (fun o => ∃ M', o = Rt (some (zI (M 139 120))) M' ∧ (∀ b, b ≠ 138 → b ≠ 141 → M' b = zwr Ma 0 9 1 b) ∧ (∀ f, f ≠ 4 → M' 138 f = M 138 f) ∧ M' 138 4 = 1 ∧ agr 124 (M' 141) (M 139)) 124 (fun i M' => (∀ b, b ≠ 138 → b ≠ 141 → M' b = zwr Ma 0 9 1 b) ∧ (∀ f, f ≠ 4 → M' 138 f = M 138 f) ∧ M' 138 4 = 1 ∧ agr i (M' 141) (M 139)) ?_ ?_ 0 (zwr (zwr Ma 0 9 1) 138 4 1) (by omega) ⟨fun b p q => zwr_n p, fun f hf => by rw [zwr_nj hf, zwr_ne (by decide), fa 138 (by omega)], zwr_at, fun j h0 h1 => absurd h1 (by omega)⟩
    · rintro i M1 i0 i1 ⟨p1, p2, p3, p4⟩
      have g1 : M1 139 = M 139 := ((p1 139 (by decide) (by decide)).trans (zwr_n (by decide))).trans a39
      refine Or.inr ⟨zwr M1 141 i (M 139 i), ?_, fun b p q => by rw [zwr_n q]; exact p1 b p q, fun f hf => by rw [zwr_ne (by decide)]; exact p2 f hf, by rw [zwr_ne (by decide)]; exact p3, fun j j0 j1 => ?_⟩
      · rw [q_245_7, if_neg (by omega), if_pos ⟨i0, i1⟩, if_pos ⟨i0, i1⟩, zw_id (by omega), g1]
      · rw [zwr_u]
        by_cases e : j = i
        · rw [e, up1_s]
        · rw [up1_n e]; exact p4 j j0 (by omega)
    · rintro M1 ⟨p1, p2, p3, p4⟩
      have g1 : M1 139 = M 139 := ((p1 139 (by decide) (by decide)).trans (zwr_n (by decide))).trans a39
      exact ⟨M1, by rw [q_245_7, if_pos (Int.le_refl _), g1], p1, p2, p3, p4⟩
  obtain ⟨Mb, eb, p1, p2, p3, p4⟩ := m
  refine ⟨zI (M 139 120), zwr Ma 0 9 1, Mb, ?_, eb, ?_⟩
  · rw [en_143, q_143_0, ea, Cb_V, q_143_11, zwr_ne (by decide), a1, h1R h3]
  · have c : ∀ b, b ≠ 0 → (b < 10 ∨ 18 < b) → b ≠ 138 → b ≠ 141 → Mb b = M b := fun b q1 q2 q3 q4 => ((p1 b q3 q4).trans (zwr_n q1)).trans (fa b (by omega))
    have g1 := c 139 (by omega) (by omega) (by omega) (by omega)
    refine ⟨(c zSC (by omega) (by omega) (by omega) (by omega)).trans h1, by rw [g1]; exact h2, by rw [g1]; exact dgr_cg (fun b b0 b1 => c b (by omega) (by omega) (by omega) (by omega)) h3, HI_0 h4 ⟨c 19 (by omega) (by omega) (by omega) (by omega), fun b b0 _ => c b (by omega) (by omega) (by omega) (by omega)⟩ ⟨p2 2 (by decide), c 140 (by omega) (by omega) (by omega) (by omega)⟩, ?_, TX_cg h6 (c 84 (by omega) (by omega) (by omega) (by omega)) (c 85 (by omega) (by omega) (by omega) (by omega)) (p2 17 (by decide)) (c 148 (by omega) (by omega) (by omega) (by omega)) (p2 18 (by decide))⟩
    have n9 : Mb 0 9 = 1 := by rw [p1 0 (by decide) (by decide), zwr_at]
    refine ⟨Or.inr n9, p3.trans n9.symm, fun _ => ⟨WF_cg p4 h2, dgr_cgg p4 h2 (dgr_cg (fun b b0 b1 => (p1 b (by omega) (by omega)).trans (zwr_n (by omega))) da)⟩⟩
theorem o_restore {S : Int → Int} (hr : RL S M) : uok (d + 12) 144 246 [] S M := by
  have hr' := hr
  obtain ⟨h1, h2, h3, h4, h5, h6⟩ := hr
  have z := zSC_b
  obtain ⟨k1, k2, k3⟩ := h5
  rcases k1 with k | k
  · refine ⟨zI (-105), M, M, ?_, ?_, hr'⟩
    · rw [en_144, q_144_0, if_neg (by omega)]
    · rw [en_246, q_246_0, if_neg (by omega)]
  · obtain ⟨w4, d4⟩ := k3 k
    obtain ⟨Ma, ea, fa, da⟩ := x_become (d := d + 9) (D := 1) (F := 10) zDn_1 zDn_10 (by decide) w4 d4
    have a41 : Ma 141 = M 141 := fa 141 (by omega)
    have m : ∃ M', E (d + 12) 246 [zR 138] (zwr Ma 19 2 0) = Rt (some (zI (M 141 120))) M' ∧ (∀ b, b ≠ 138 → b ≠ 139 → M' b = zwr Ma 19 2 0 b) ∧ (∀ f, f ≠ 2 → M' 138 f = M 138 f) ∧ M' 138 2 = 0 ∧ agr 124 (M' 139) (M 141) := by
      have a38 : (zwr Ma 19 2 0) 138 = M 138 := by rw [zwr_n (by decide)]; exact fa 138 (by omega)
      rw [en_246, q_246_0, if_pos (by rw [a38]; omega)]
      refine lpi (fun i (M1 : ZM) => Q (d + 11) 246 12 [zR 138, zI i] [] M1) (fun o => ∃ M', o = Rt (some (zI (M 141 120))) M' ∧ (∀ b, b ≠ 138 → b ≠ 139 → M' b = zwr Ma 19 2 0 b) ∧ (∀ f, f ≠ 2 → M' 138 f = M 138 f) ∧ M' 138 2 = 0 ∧ agr 124 (M' 139) (M 141)) 124 (fun i M' => (∀ b, b ≠ 139 → M' b = zwr Ma 19 2 0 b) ∧ agr i (M' 139) (M 141)) ?_ ?_ 0 (zwr Ma 19 2 0) (by omega) ⟨fun _ _ => rfl, fun j h0 h1 => absurd h1 (by omega)⟩
      · rintro i M1 i0 i1 ⟨p1, p4⟩
        have g1 : M1 141 = M 141 := ((p1 141 (by decide)).trans (zwr_n (by decide))).trans a41
        refine Or.inr ⟨zwr M1 139 i (M 141 i), ?_, fun b p => by rw [zwr_n p]; exact p1 b p, fun j j0 j1 => ?_⟩
        · rw [q_246_12, if_neg (by omega), if_pos ⟨i0, i1⟩, if_pos ⟨i0, i1⟩, zw_id (by omega), g1]
        · rw [zwr_u]
          by_cases e : j = i
          · rw [e, up1_s]
          · rw [up1_n e]; exact p4 j j0 (by omega)
      · rintro M1 ⟨p1, p4⟩
        refine ⟨zwr M1 138 2 0, ?_, fun b p q => by rw [zwr_n p]; exact p1 b q, fun f hf => by rw [zwr_nj hf, p1 138 (by decide), a38], zwr_at, by rw [zwr_n (by decide)]; exact p4⟩
        rw [q_246_12, if_pos (Int.le_refl _), zwr_ne (by decide), p4 120 (by decide) (by decide)]
    obtain ⟨Mb, eb, p1, p2, p3, p4⟩ := m
    refine ⟨zI (M 141 120), zwr Ma 19 2 0, Mb, ?_, eb, ?_⟩
    · rw [en_144, q_144_0, if_pos (by omega), ea, Cb_V, q_144_21, en_69, q_69_0, Cb_V, q_144_28, zwr_ne (by decide), h1R da]
    · have c : ∀ b, b ≠ 19 → (b < 1 ∨ 9 < b) → b ≠ 138 → b ≠ 139 → Mb b = M b := fun b q1 q2 q3 q4 => ((p1 b q3 q4).trans (zwr_n q1)).trans (fa b (by omega))
      have w' : WF (Mb 139) := WF_cg p4 w4
      refine ⟨(c zSC (by omega) (by omega) (by omega) (by omega)).trans h1, w', dgr_cgg p4 w4 (dgr_cg (fun b b0 b1 => (p1 b (by omega) (by omega)).trans (zwr_n (by omega))) da), ⟨?_, by omega, ?_, fun k k0 k1 => absurd k1 (by omega)⟩, SV_cg ⟨Or.inr k, k2, k3⟩ (c 0 (by omega) (by omega) (by omega) (by omega)) (fun b b0 b1 => c b (by omega) (by omega) (by omega) (by omega)) (p2 4 (by decide)) (c 141 (by omega) (by omega) (by omega) (by omega)), TX_cg h6 (c 84 (by omega) (by omega) (by omega) (by omega)) (c 85 (by omega) (by omega) (by omega) (by omega)) (p2 17 (by decide)) (c 148 (by omega) (by omega) (by omega) (by omega)) (p2 18 (by decide))⟩
      · rw [p1 19 (by decide) (by decide), zwr_nj (by decide), fa 19 (by omega)]
        exact h4.1
      · rw [p1 19 (by decide) (by decide), zwr_at, p3]
theorem o_undo {S : Int → Int} (hr : RL S M) : uok (d + 12) 118 207 [] S M := by
  have hr' := hr
  obtain ⟨h1, h2, h3, h4, h5, h6⟩ := hr
  have z := zSC_b
  have h4' := h4
  obtain ⟨n1, n2, n3, n4⟩ := h4
  by_cases k : M 138 2 = 0
  · refine ⟨zI (-104), M, M, ?_, ?_, hr'⟩
    · rw [en_118, q_118_0, en_68, q_68_0, if_neg (by omega), Cb_I, q_118_11]
    · rw [en_207, q_207_0, if_neg (by omega)]
  · obtain ⟨w4, d4⟩ := n4 (M 138 2 - 1) (by omega) (by omega)
    have sl := slo_rg (M 19 1 + 7 - M 138 2 + (M 138 2 - 1))
    have es : slo (M 19 1 + 7 - M 138 2 + (M 138 2 - 1)) = 21 + 9 * ((M 19 1 + 6) % 7).toNat := by
      unfold slo
      rw [show M 19 1 + 7 - M 138 2 + (M 138 2 - 1) = M 19 1 + 6 by omega]
    generalize hM1 : zwr (zwr M 19 2 (M 138 2 - 1)) 19 1 ((M 19 1 + 6) % 7) = M1
    have c1 : ∀ b, b ≠ 19 → M1 b = M b := fun b hb => by rw [← hM1, zwr_n hb, zwr_n hb]
    have d5 : dgr M1 (slo (M 19 1 + 7 - M 138 2 + (M 138 2 - 1))) (hrw M (M 138 2 - 1)) := dgr_cg (fun b b0 b1 => c1 b (by omega)) d4
    obtain ⟨Ma, ea, fa, da⟩ := x_become (d := d + 8) (M := M1) (D := 1) zDn_1 (zDn_slo (M 19 1 + 7 - M 138 2 + (M 138 2 - 1))) (by omega) w4 d5
    have aM : ∀ b, b ≠ 19 → (b < 1 ∨ 9 < b) → Ma b = M b := fun b p q => (fa b q).trans (c1 b p)
    have a191 : Ma 19 1 = (M 19 1 + 6) % 7 := by rw [fa 19 (by omega), ← hM1, zwr_at]
    have a192 : Ma 19 2 = M 138 2 - 1 := by rw [fa 19 (by omega), ← hM1, zwr_nj (by decide), zwr_at]
    have m : ∃ M', E (d + 12) 207 [zR 138] Ma = Rt (some (zI (M 138 2 - 1))) M' ∧ (∀ b, b ≠ 138 → b ≠ 139 → M' b = Ma b) ∧ (∀ f, f ≠ 2 → M' 138 f = M 138 f) ∧ M' 138 2 = M 138 2 - 1 ∧ agr 124 (M' 139) (hrw M (M 138 2 - 1)) := by
      have a38 : Ma 138 = M 138 := aM 138 (by omega) (by omega)
      rw [en_207, q_207_0, a38, if_pos k, zw_id (x := M 138 2 - 1) (by omega)]
      refine lpi (fun i (M2 : ZM) => Q (d + 11) 207 22 [zR 138, zI i] [] M2) (fun o => ∃ M', o = Rt (some (zI (M 138 2 - 1))) M' ∧ (∀ b, b ≠ 138 → b ≠ 139 → M' b = Ma b) ∧ (∀ f, f ≠ 2 → M' 138 f = M 138 f) ∧ M' 138 2 = M 138 2 - 1 ∧ agr 124 (M' 139) (hrw M (M 138 2 - 1))) 124 (fun i M' => (∀ b, b ≠ 138 → b ≠ 139 → M' b = Ma b) ∧ (∀ f, f ≠ 2 → M' 138 f = M 138 f) ∧ M' 138 2 = M 138 2 - 1 ∧ agr i (M' 139) (hrw M (M 138 2 - 1))) ?_ ?_ 0 (zwr Ma 138 2 (M 138 2 - 1)) (by omega) ⟨fun b p q => zwr_n p, fun f hf => by rw [zwr_nj hf, a38], zwr_at, fun j h0 h1 => absurd h1 (by omega)⟩
      · rintro i M2 i0 i1 ⟨p1, p2, p3, p4⟩
        have z0 : zw (zw (124 * (M 138 2 - 1)) + i) = 124 * (M 138 2 - 1) + i := by unfold zw; omega
        refine Or.inr ⟨zwr M2 139 i (hrw M (M 138 2 - 1) i), ?_, fun b p q => by rw [zwr_n q]; exact p1 b p q, fun f hf => by rw [zwr_ne (by decide)]; exact p2 f hf, by rw [zwr_ne (by decide)]; exact p3, fun j j0 j1 => ?_⟩
        · rw [q_207_22, if_neg (by omega), p3, z0, if_pos (by omega), if_pos ⟨i0, i1⟩, zw_id (by omega), p1 140 (by decide) (by decide), aM 140 (by omega) (by omega)]
          rfl
        · rw [zwr_u]
          by_cases e : j = i
          · rw [e, up1_s]
          · rw [up1_n e]; exact p4 j j0 (by omega)
      · rintro M2 ⟨p1, p2, p3, p4⟩
        exact ⟨M2, by rw [q_207_22, if_pos (Int.le_refl _), p3], p1, p2, p3, p4⟩
    obtain ⟨Mb, eb, p1, p2, p3, p4⟩ := m
    refine ⟨zI (M 138 2 - 1), Ma, Mb, ?_, eb, ?_⟩
    · have e1 : (zwr M 19 2 (M 138 2 - 1)) 19 1 = M 19 1 := zwr_nj (by decide)
      have tm : (zw (zw (M 19 1 + 7) - 1)).tmod 7 = (M 19 1 + 6) % 7 := by
        rw [zw_id (x := M 19 1 + 7) (by omega), zw_id (x := M 19 1 + 7 - 1) (by omega), Int.tmod_eq_emod_of_nonneg (by omega), show M 19 1 + 7 - 1 = M 19 1 + 6 by omega]
      have e2 : M1 19 1 = (M 19 1 + 6) % 7 := by rw [← hM1, zwr_at]
      rw [en_118, q_118_0, en_68, q_68_0, n3, if_pos k, zw_id (x := M 138 2 - 1) (by omega), e1, tm, hM1, e2, if_pos (by omega), ← es, ea, Cb_V, q_68_49, a192, Cb_I, q_118_11]
    · have c : ∀ b, b ≠ 19 → (b < 1 ∨ 9 < b) → b ≠ 138 → b ≠ 139 → Mb b = M b := fun b q1 q2 q3 q4 => (p1 b q3 q4).trans (aM b q1 q2)
      have b19 : Mb 19 = Ma 19 := p1 19 (by decide) (by decide)
      have b40 : Mb 140 = M 140 := c 140 (by omega) (by omega) (by omega) (by omega)
      refine ⟨(c zSC (by omega) (by omega) (by omega) (by omega)).trans h1, WF_cg p4 w4, dgr_cgg p4 w4 (dgr_cg (fun b b0 b1 => p1 b (by omega) (by omega)) da), ⟨by rw [b19, a191]; omega, by omega, by rw [b19, a192, p3], fun j j0 j1 => ?_⟩, SV_cg h5 (c 0 (by omega) (by omega) (by omega) (by omega)) (fun b b0 b1 => c b (by omega) (by omega) (by omega) (by omega)) (p2 4 (by decide)) (c 141 (by omega) (by omega) (by omega) (by omega)), TX_cg h6 (c 84 (by omega) (by omega) (by omega) (by omega)) (c 85 (by omega) (by omega) (by omega) (by omega)) (p2 17 (by decide)) (c 148 (by omega) (by omega) (by omega) (by omega)) (p2 18 (by decide))⟩
      obtain ⟨wj, dj⟩ := n4 j j0 (by omega)
      have er : hrw Mb j = hrw M j := by unfold hrw; rw [b40]
      rw [er, b19, a191, p3, slo_cg (b := M 19 1 + 7 - M 138 2 + j) (by omega)]
      have sj := slo_rg (M 19 1 + 7 - M 138 2 + j)
      exact ⟨wj, dgr_cg (fun b b0 b1 => c b (by omega) (by omega) (by omega) (by omega)) dj⟩
end
