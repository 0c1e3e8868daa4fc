/-! the questions about cells; counts -/
section
variable {p q : Int → Prop} {j : Int}
theorem cN_ins (hq : ¬ q j) : ∀ m : Nat, cN (fun k => q k ∨ k = j ∧ p k) m = cN q m + (if 0 ≤ j ∧ j < m then bI (p j) else 0)
  | 0 => by
    rw [if_neg (by omega)]
    rfl
  | m + 1 => by
    show cN _ m + bI (q m ∨ (m : Int) = j ∧ p m) = cN q m + bI (q m) + _
    rw [cN_ins hq m]
    by_cases e : (m : Int) = j
    · subst e
      rw [if_neg (by omega), if_pos (by omega), bI_f hq, bI_cg (show (q m ∨ (m : Int) = m ∧ p m) ↔ p m from ⟨fun z => (z.resolve_left hq).2, fun z => Or.inr ⟨rfl, z⟩⟩)]
    · rw [bI_cg (show (q m ∨ (m : Int) = j ∧ p m) ↔ q m from ⟨fun z => z.elim id (fun z => absurd z.1 e), Or.inl⟩)]
      by_cases k : 0 ≤ j ∧ j < m
      · rw [if_pos k, if_pos (by omega)]
        omega
      · rw [if_neg k, if_neg (by omega)]
        omega
theorem cn_map {f : Int → Int} {m : Int} : ∀ n : Nat, (∀ i : Int, 0 ≤ i → i < n → 0 ≤ f i ∧ f i < m) → (∀ i j : Int, 0 ≤ i → i < n → 0 ≤ j → j < n → f i = f j → i = j) → cn (fun i => p (f i)) n = cn (fun k => p k ∧ ∃ i, (0 ≤ i ∧ i < (n : Int)) ∧ f i = k) m
  | 0, _, _ => by
    have : ∀ n : Nat, cN (fun k => p k ∧ ∃ i, (0 ≤ i ∧ i < ((0 : Nat) : Int)) ∧ f i = k) n = 0 := by
      intro n
      induction n with
      | zero => rfl
      | succ n ih =>
        show cN _ n + bI _ = 0
        rw [ih, bI_f (fun ⟨_, i, i0, _⟩ => by omega)]
        rfl
    exact (this _).symm
  | n + 1, h1, h2 => by
    have ih := cn_map n (fun i i0 i1 => h1 i i0 (by omega)) (fun i j i0 i1 j0 j1 => h2 i j i0 (by omega) j0 (by omega))
    have hn := h1 n (by omega) (by omega)
    rw [show ((n + 1 : Nat) : Int) = (n : Int) + 1 by omega, cn_s (by omega), ih]
    have k := cN_ins (q := fun k => p k ∧ ∃ i, (0 ≤ i ∧ i < (n : Int)) ∧ f i = k) (p := p) (j := f n) (fun ⟨_, i, i0, i1⟩ => by
      have := h2 i n i0.1 (by omega) (by omega) (by omega) i1
      omega) m.toNat
    rw [if_pos (by omega)] at k
    unfold cn at *
    rw [← k]
    refine cN_cg _ (fun i _ _ => ⟨?_, ?_⟩)
    · rintro (⟨z, t, t0, t1⟩ | ⟨z1, z2⟩)
      · exact ⟨z, t, by omega, t1⟩
      · exact ⟨z2, n, by omega, z1.symm⟩
    · rintro ⟨z, t, t0, t1⟩
      by_cases e : t = n
      · exact Or.inr ⟨by rw [← t1, e], z⟩
      · exact Or.inl ⟨z, t, by omega, t1⟩
end
section
variable {d : Nat} {M : ZM} {g : Int → Int}
theorem tab_at {f : Int → Int} {t : Int → Int → Int} (h : tab f t) {k : Int} (hk : 0 ≤ k ∧ k < 384) : f k = t (k % 24) (k / 24) := by
  have := h (k % 24) (k / 24) (by omega) (by omega) (by omega) (by omega)
  rw [show 24 * (k / 24) + k % 24 = k by omega] at this
  exact this
theorem rAt_rg (hw : WF g) (x y : Int) : -1 ≤ rAt g x y ∧ rAt g x y < g 120 := by
  have hR := wf_R hw
  have := fs_sp (p := inR g x y) hR.1
  unfold rAt
  omega
theorem cAt_rg (hw : WF g) (x y : Int) : -1 ≤ cAt g x y ∧ cAt g x y < 20 := by
  have hW := wf_W hw
  have := fs_sp (p := has g x y) hW.1
  unfold cAt
  omega
theorem lAt_sp (hw : WF g) (x y : Int) : lAt g x y = -1 ∨ (0 ≤ lAt g x y ∧ lAt g x y < g 121) ∧ 0 ≤ gL g (lAt g x y) ∧ cAt g x y ≠ -1 := by
  have hW := wf_W hw
  rcases fs_sp (p := fun c => has g x y c ∧ isL g c) hW.1 with k | ⟨k1, k2, k3⟩
  · exact Or.inl k.1
  · refine Or.inr ⟨k1, k2.2, fun z => ?_⟩
    rcases fs_sp (p := has g x y) hW.1 with l | l
    · exact l.2 _ k1.1 k1.2 k2.1
    · unfold cAt at z
      omega
noncomputable def cellV (g : Int → Int) (x y : Int) : Int := if (0 ≤ x ∧ x < 24) ∧ 0 ≤ y ∧ y < 16 then if rAt g x y = -1 then if cAt g x y = -1 then -104 else 20 + cAt g x y else rAt g x y else -101
theorem o_cell {x y : Int} (hw : WF (M 139)) (hd : dgr M 1 (M 139)) : qok (d + 12) 124 213 [zI x, zI y] M := by
  refine qok_of (v := zI (cellV (M 139) x y)) ?_ ?_
  · unfold xq cellV
    rw [en_124, q_124_0, x_cellAt, Cb_I, q_124_5]
    unfold cel
    generalize M 139 = g at *
    have hR := wf_R hw
    by_cases h : (0 ≤ x ∧ x < 24) ∧ 0 ≤ y ∧ y < 16
    · obtain ⟨M1, e1, f1, t1, t2, t3⟩ := x_draw (d := d + 7) hw hd
      have a := rAt_rg hw x y
      have b := cAt_rg hw x y
      refine ⟨M1, ?_, frr_v f1 (by omega) (by omega)⟩
      rw [if_pos h, if_pos (by omega), e1, Cb_V, q_124_25, en_59, q_59_0, if_pos (by omega), t1 x y (by omega) (by omega) (by omega) (by omega), t2 x y (by omega) (by omega) (by omega) (by omega), if_pos h]
      by_cases k : rAt g x y = -1
      · rw [if_pos k, if_pos (by omega), if_pos k]
        by_cases l : cAt g x y = -1
        · rw [if_neg (fun q => q l), if_pos l, Cb_I, q_124_33]
        · rw [if_pos l, if_pos (by omega), if_neg l, Cb_I, q_124_33, zw_id (by omega)]
      · rw [if_neg k, if_pos (by omega), if_neg k, Cb_I, q_124_33]
    · exact ⟨M, by rw [if_neg h, if_neg (by omega), if_neg h], frr_r⟩
  · intro M1 f
    have g1 := fx_g f
    have hw1 : WF (M1 139) := by rw [g1]; exact hw
    rw [← g1]
    unfold mq cellV
    rw [en_213, q_213_0, m_isCell, Cb_I, q_213_5]
    by_cases h : (0 ≤ x ∧ x < 24) ∧ 0 ≤ y ∧ y < 16
    · have a := rAt_rg hw1 x y
      have b := cAt_rg hw1 x y
      rw [if_pos (bI_n0.2 h), m_roomAt hw1 (by omega) (by omega), Cb_I, q_213_17, m_cAt hw1 (by omega) (by omega), Cb_I, q_213_25, if_pos h]
      refine ⟨M1, ?_, fm_r⟩
      by_cases k : rAt (M1 139) x y = -1
      · rw [if_pos (by omega), if_pos k]
        by_cases l : cAt (M1 139) x y = -1
        · rw [if_pos (by omega), if_pos l]
        · rw [if_neg (by omega), if_neg l, zw_id (by omega)]
      · rw [if_neg (by omega), if_neg k]
    · exact ⟨M1, by rw [if_neg (fun q => q (bI_0.2 h)), if_neg h], fm_r⟩
noncomputable def signV (g : Int → Int) (x y : Int) : Int := if (0 ≤ x ∧ x < 24) ∧ 0 ≤ y ∧ y < 16 then if rAt g x y = -1 then if lAt g x y = -1 then if cAt g x y = -1 then 35 else 43 else 97 + gL g (lAt g x y) else if x = cX g (rAt g x y) ∧ y = cY g (rAt g x y) then if rAt g x y = g 122 then 62 else if gK g (rAt g x y) = -1 then 111 else 48 + gK g (rAt g x y) else 46 else -101
theorem o_sign {x y : Int} (hw : WF (M 139)) (hd : dgr M 1 (M 139)) : qok (d + 12) 125 214 [zI x, zI y] M := by
  refine qok_of (v := zI (signV (M 139) x y)) ?_ ?_
  · unfold xq signV
    rw [en_125, q_125_0, x_cellAt, Cb_I, q_125_5]
    unfold cel
    generalize M 139 = g at *
    have hR := wf_R hw
    have hW := wf_W hw
    by_cases h : (0 ≤ x ∧ x < 24) ∧ 0 ≤ y ∧ y < 16
    · obtain ⟨M1, e1, f1, t1, t2, t3⟩ := x_draw (d := d + 7) hw hd
      have hd1 := frr_d f1 (by omega) hd
      have a := rAt_rg hw x y
      have b := cAt_rg hw x y
      have c := lAt_sp hw x y
      have t3' : M1 135 (24 * y + x) = lkv g (lAt g x y) := t3 x y (by omega) (by omega) (by omega) (by omega)
      refine ⟨M1, ?_, frr_v f1 (by omega) (by omega)⟩
      rw [if_pos h, if_pos (by omega), e1, Cb_V, q_125_25, en_60, q_60_0, if_pos (by omega), t1 x y (by omega) (by omega) (by omega) (by omega), t2 x y (by omega) (by omega) (by omega) (by omega), t3', if_pos h]
      by_cases k : rAt g x y = -1
      · rw [if_pos k, if_pos (by omega), if_pos k]
        by_cases l : lAt g x y = -1
        · rw [show lkv g (lAt g x y) = -1 from if_pos l, if_pos l]
          by_cases n : cAt g x y = -1
          · rw [if_neg (fun q => q n), if_pos n, Cb_I, q_125_37]
          · rw [if_pos n, if_pos (by omega), if_neg (by omega), if_neg n, Cb_I, q_125_37]
        · have c := c.resolve_left l
          have gl := wf_l hw c.1
          rw [show lkv g (lAt g x y) = gL g (lAt g x y) from if_neg l, if_neg l, if_pos c.2.2, if_pos (by omega), if_pos (by omega), if_pos (by omega), Cb_I, q_125_37, zw_id (by omega)]
      · have hr : 0 ≤ rAt g x y ∧ rAt g x y < g 120 := by omega
        have kk := wf_k hw hr
        have c1 := cX_rg hw hr
        have c2 := cY_rg hw hr
        rw [if_neg k, if_pos (by omega), if_neg k, en_61, q_61_0, x_centerColumn hw hd1 hr, Cb_I, q_61_6, x_centerRow hw hd1 hr, Cb_I, q_61_11, x_cellAt, Cb_I, q_61_14]
        unfold cel
        rw [if_pos (show (0 ≤ cX g (rAt g x y) ∧ cX g (rAt g x y) < 24) ∧ 0 ≤ cY g (rAt g x y) ∧ cY g (rAt g x y) < 16 by omega)]
        by_cases l : x = cX g (rAt g x y) ∧ y = cY g (rAt g x y)
        · rw [if_pos (by omega), if_pos l, h1E hd1]
          by_cases n : rAt g x y = g 122
          · rw [if_neg (fun q => q n), if_pos n, Cb_I, q_60_21, Cb_I, q_125_37]
          · rw [if_pos n, if_neg n, if_pos (by omega), h1k hd1 hr]
            by_cases o : gK g (rAt g x y) = -1
            · rw [if_neg (fun q => q o), if_pos o, Cb_I, q_60_21, Cb_I, q_125_37]
            · rw [if_pos o, if_neg o, if_pos (by omega), Cb_I, q_60_21, Cb_I, q_125_37, zw_id (by omega)]
        · rw [if_neg (by omega), if_neg l, Cb_I, q_60_21, Cb_I, q_125_37]
    · exact ⟨M, by rw [if_neg h, if_neg (by omega), if_neg h], frr_r⟩
  · intro M1 f
    have g1 := fx_g f
    have hw1 : WF (M1 139) := by rw [g1]; exact hw
    rw [← g1]
    have hR := wf_R hw1
    have hW := wf_W hw1
    unfold mq signV
    rw [en_214, q_214_0, m_isCell, Cb_I, q_214_5]
    by_cases h : (0 ≤ x ∧ x < 24) ∧ 0 ≤ y ∧ y < 16
    · have a := rAt_rg hw1 x y
      have b := cAt_rg hw1 x y
      have c := lAt_sp hw1 x y
      rw [if_pos (bI_n0.2 h), m_roomAt hw1 (by omega) (by omega), Cb_I, q_214_17, if_pos h]
      refine ⟨M1, ?_, fm_r⟩
      by_cases k : rAt (M1 139) x y = -1
      · rw [if_pos (by omega), m_lAt hw1 (by omega) (by omega), Cb_I, q_214_104, if_pos k]
        by_cases l : lAt (M1 139) x y = -1
        · rw [if_pos (by omega), m_cAt hw1 (by omega) (by omega), Cb_I, q_214_131, if_pos l]
          by_cases n : cAt (M1 139) x y = -1
          · rw [if_pos (by omega), if_pos n]
          · rw [if_neg (by omega), if_neg n]
        · have c := c.resolve_left l
          have gl := wf_l hw1 c.1
          rw [if_neg (by omega), m_l (by omega), Cb_I, q_214_120, if_neg l, zw_id (by omega)]
      · have hr : 0 ≤ rAt (M1 139) x y ∧ rAt (M1 139) x y < M1 139 120 := by omega
        have kk := wf_k hw1 hr
        rw [if_neg (by omega), m_columnOf (by omega) (wf_r hw1 hr), Cb_I, q_214_28, if_neg k]
        by_cases l1 : x = cX (M1 139) (rAt (M1 139) x y)
        · rw [if_neg (fun q => q l1), m_rowOf (by omega) (wf_r hw1 hr), Cb_I, q_214_37]
          by_cases l2 : y = cY (M1 139) (rAt (M1 139) x y)
          · have l12 : x = cX (M1 139) (rAt (M1 139) x y) ∧ y = cY (M1 139) (rAt (M1 139) x y) := ⟨l1, l2⟩
            rw [if_neg (fun q => q l2), if_pos l12]
            by_cases n : rAt (M1 139) x y = M1 139 122
            · rw [if_neg (fun q => q n), if_pos n]
            · rw [if_pos n, if_neg n, m_k (by omega), Cb_I, q_214_79]
              by_cases o : gK (M1 139) (rAt (M1 139) x y) = -1
              · rw [if_pos (by omega), if_pos o]
              · rw [if_neg (by omega), if_neg o, m_k (by omega), Cb_I, q_214_90, zw_id (by omega)]
          · rw [if_pos l2, if_neg (fun q => l2 q.2)]
        · rw [if_pos l1, if_neg (fun q => l1 q.1)]
    · exact ⟨M1, by rw [if_neg (fun q => q (bI_0.2 h)), if_neg h], fm_r⟩
noncomputable def cwN (g : Int → Int) (c : Int) : Int := cn (fun k => has g (k % 24) (k / 24) c) 384
theorem cw_eq {c : Int} (hw : WF g) (hc : 0 ≤ c ∧ c < g 121) : cn (fun i => rAt g (wX g c i) (wY g c i) = -1) (dst g (gA g c) (gB g c) + 1) = cwN g c := by
  have hab := wf_ab hw hc
  have dr := dst_rg hw (r := gA g c) (s := gB g c) (by omega) (by omega)
  have rg : ∀ i : Int, 0 ≤ i → i < dst g (gA g c) (gB g c) + 1 → onW g (wX g c i) (wY g c i) c ∧ (1 ≤ wX g c i ∧ wX g c i < 24) ∧ 1 ≤ wY g c i ∧ wY g c i < 16 := by
    intro i i0 i1
    have hi : 0 ≤ i ∧ i ≤ ab (dX g c) + ab (dY g c) := ⟨i0, by rw [← dst_d]; omega⟩
    have h := w_hit.1 ⟨i, hi, rfl, rfl⟩
    exact ⟨h, onW_rg hw hc h⟩
  have k := cn_map (p := fun k => rAt g (k % 24) (k / 24) = -1) (f := fun i => 24 * wY g c i + wX g c i) (m := 384) (dst g (gA g c) (gB g c) + 1).toNat (fun i i0 i1 => by have := rg i i0 (by omega); omega) (fun i j i0 i1 j0 j1 e => by
    have a := rg i i0 (by omega)
    have b := rg j j0 (by omega)
    have e1 : wX g c i = wX g c j := by omega
    have e2 : wY g c i = wY g c j := by omega
    unfold wX at e1
    unfold wY at e2
    have p1 := way_inv (e := c % 2) (dx := dX g c) (dy := dY g c) (i := i) ⟨i0, by rw [← dst_d]; omega⟩
    have p2 := way_inv (e := c % 2) (dx := dX g c) (dy := dY g c) (i := j) ⟨j0, by rw [← dst_d]; omega⟩
    rw [← p1, ← p2, show wxN (c % 2) (dX g c) (dY g c) i = wxN (c % 2) (dX g c) (dY g c) j by omega, show wyN (c % 2) (dX g c) (dY g c) i = wyN (c % 2) (dX g c) (dY g c) j by omega])
  rw [Int.toNat_of_nonneg (show 0 ≤ dst g (gA g c) (gB g c) + 1 by omega)] at k
  refine (cn_cg (fun i i0 i1 => ?_)).trans (k.trans (cn_cg (fun k k0 k1 => ?_)))
  · have a := rg i i0 i1
    rw [show (24 * wY g c i + wX g c i) % 24 = wX g c i by omega, show (24 * wY g c i + wX g c i) / 24 = wY g c i by omega]
  · unfold has
    rw [← w_hit]
    constructor
    · rintro ⟨z, i, i0, i1⟩
      have a := rg i i0.1 i0.2
      exact ⟨⟨i, by rw [← dst_d]; omega, by omega, by omega⟩, z⟩
    · rintro ⟨⟨i, i0, i1, i2⟩, z⟩
      rw [← dst_d] at i0
      exact ⟨z, i, by omega, by omega⟩
theorem x_cellsOfWay {c : Int} (hw : WF g) (hd : dgr M 1 g) (hc : 0 ≤ c ∧ c < g 121) (h0 : tab (M 133) (rAt g)) : E (d + 3) 56 [zR 132, zR 1, zI c] M = Rt (some (zI (cwN g c))) M := by
  have hW := wf_W hw
  have hab := wf_ab hw hc
  have hA : 0 ≤ gA g c ∧ gA g c < g 120 := by omega
  have hB : 0 ≤ gB g c ∧ gB g c < g 120 := by omega
  have dr := dst_rg hw hA hB
  rw [en_56, q_56_0, if_pos (by omega), if_pos (by omega), h1a hd hc, h1b hd hc, x_distance hw hd hA hB, Cb_I, q_56_18, ← cw_eq hw hc]
  refine lpi (fun i (z : ZV) => Q (d + 2) 56 23 [zR 132, zR 1, zI c, zI (cn (fun i => rAt g (wX g c i) (wY g c i) = -1) i), zI (dst g (gA g c) (gB g c)), zI i, z] [] M) (fun o => o = _) (dst g (gA g c) (gB g c) + 1) (fun _ _ => True) ?_ ?_ 0 zU (by omega) trivial
  · intro i z i0 i1 _
    have hi : 0 ≤ i ∧ i ≤ ab (dX g c) + ab (dY g c) := by rw [← dst_d]; omega
    have rg := onW_rg hw hc (w_hit.1 ⟨i, hi, rfl, rfl⟩)
    have k := cn_le (p := fun i => rAt g (wX g c i) (wY g c i) = -1) i0
    refine Or.inr ⟨zI (24 * wY g c i + wX g c i), ?_, trivial⟩
    rw [cn_s i0, q_56_23, if_neg (by omega), x_wayCell hw hd hc hi, Cb_I, q_56_37, if_neg (by omega), if_pos (by omega), h0 _ _ (by omega) (by omega) (by omega) (by omega), zw_id (x := i + 1) (by omega)]
    by_cases q : rAt g (wX g c i) (wY g c i) = -1
    · rw [if_neg (fun z => z q), bI_t q, zw_id (by omega)]
    · rw [if_pos q, bI_f q, Int.add_zero]
  · intro z _
    rw [q_56_23, if_pos (by omega)]
theorem tm24 {k : Int} (h : 0 ≤ k ∧ k < 384) : k.tmod 24 = k % 24 ∧ zw (k.tdiv 24) = k / 24 := by
  rw [Int.tmod_eq_emod_of_nonneg h.1, Int.tdiv_eq_ediv_of_nonneg h.1, zw_id (by omega)]
  exact ⟨rfl, rfl⟩
theorem m_cellsOf {c : Int} (hw : WF (M 139)) (hc : 0 ≤ c ∧ c < M 139 121) : E (d + 4) 212 [zR 138, zI c] M = Rt (some (zI (cwN (M 139) c))) M := by
  rw [en_212, q_212_0]
  refine (lpv (fun i a => Q (d + 3) 212 4 [zR 138, zI c, zI a, zI i] [] M) (fun i => cn (fun k => has (M 139) (k % 24) (k / 24) c) i) 384 (by omega) ?_).trans ?_
  · intro i h0 h1
    have k := cn_le (p := fun k => has (M 139) (k % 24) (k / 24) c) h0
    rw [cn_s h0, q_212_4, if_neg (by omega), (tm24 ⟨h0, h1⟩).1, (tm24 ⟨h0, h1⟩).2, m_has hw hc (by omega) (by omega), Cb_I, q_212_25, zw_id (x := i + 1) (by omega)]
    by_cases q : has (M 139) (i % 24) (i / 24) c
    · rw [if_neg (bI_n0.2 q), bI_t q, zw_id (by omega)]
    · rw [if_pos (bI_0.2 q), bI_f q, zw_id (by omega)]
  · rw [q_212_4, if_pos (Int.le_refl _)]
    rfl
theorem o_corridor {c w : Int} (hw : WF (M 139)) (hd : dgr M 1 (M 139)) : qok (d + 12) 121 221 [zI c, zI w] M := by
  have hR := wf_R hw
  have hW := wf_W hw
  have done : ∀ v : Int, E (d + 12) 121 [zR 0, zI c, zI w] M = Rt (some (zI v)) M → E (d + 12) 221 [zR 138, zI c, zI w] M = Rt (some (zI v)) M → qok (d + 12) 121 221 [zI c, zI w] M := fun v h1 h2 => ⟨zI v, M, M, h1, frr_r, h2, fm_r⟩
  have ex : E (d + 12) 121 [zR 0, zI c, zI w] M = Q (d + 11) 121 8 [zR 0, zI c, zI w] [zI (bI (0 ≤ c ∧ c < M 139 121))] M := by rw [en_121, q_121_0, x_hasCorridor hd, Cb_I]
  have em : ∀ N : ZM, N 139 = M 139 → E (d + 12) 221 [zR 138, zI c, zI w] N = Q (d + 11) 221 5 [zR 138, zI c, zI w] [zI (bI (0 ≤ c ∧ c < M 139 121))] N := fun N e => by rw [en_221, q_221_0, m_isCorridor _ (by rw [e]; exact hW), Cb_I, e]
  by_cases k3 : (0 ≤ c ∧ c < M 139 121) ∧ w = 3
  · obtain ⟨h, k3⟩ := k3
    subst k3
    obtain ⟨M1, e1, f1, t1, t2, t3⟩ := x_draw (d := d + 7) hw hd
    have g1 : M1 139 = M 139 := f1 139 (by omega)
    refine ⟨zI (cwN (M 139) c), M1, M1, ?_, frr_v f1 (by omega) (by omega), ?_, fm_r⟩
    · rw [ex, q_121_8, if_pos (bI_n0.2 h), if_neg (by omega), if_neg (by omega), if_neg (by omega), if_pos rfl, e1, Cb_V, q_121_88, x_cellsOfWay hw (frr_d f1 (by omega) hd) h t1, Cb_I, q_121_100]
    · rw [em M1 g1, q_221_5, if_pos (bI_n0.2 h), if_neg (by omega), if_neg (by omega), if_neg (by omega), if_pos rfl, m_cellsOf (by rw [g1]; exact hw) (by rw [g1]; exact h), Cb_I, q_221_66, g1]
  · have em := em M rfl
    rw [q_121_8] at ex
    rw [q_221_5] at em
    by_cases h : 0 ≤ c ∧ c < M 139 121
    · rw [if_pos (bI_n0.2 h)] at ex em
      by_cases k0 : w = 0
      · subst k0
        rw [if_pos rfl, if_pos (by omega), h1a hd h] at ex
        rw [if_pos rfl, m_a (by omega), Cb_I, q_221_50] at em
        exact done _ ex em
      · rw [if_neg k0] at ex em
        by_cases k1 : w = 1
        · subst k1
          rw [if_pos rfl, if_pos (by omega), h1b hd h] at ex
          rw [if_pos rfl, m_b (by omega), Cb_I, q_221_50] at em
          exact done _ ex em
        · rw [if_neg k1] at ex em
          by_cases k2 : w = 2
          · subst k2
            rw [if_pos rfl, if_pos (by omega), h1l hd h, x_told, Cb_I, q_121_76] at ex
            rw [if_pos rfl, m_l (by omega), Cb_I, q_221_57, m_told, Cb_I, q_221_60] at em
            exact done _ ex em
          · rw [if_neg k2, if_neg (fun q => k3 ⟨h, q⟩)] at ex em
            exact done _ ex em
    · rw [if_neg (fun q => q (bI_0.2 h))] at ex em
      exact done _ ex em
noncomputable def ccN (g : Int → Int) : Int := cn (fun k => cAt g (k % 24) (k / 24) ≠ -1) 384
theorem x_corridorCells (h : tab (M 134) (cAt g)) : E (d + 1) 57 [zR 132] M = Rt (some (zI (ccN g))) M := by
  rw [en_57, q_57_0]
  refine (lpv (fun i a => Q d 57 4 [zR 132, zI a, zI i] [] M) (fun i => cn (fun k => cAt g (k % 24) (k / 24) ≠ -1) i) 384 (by omega) ?_).trans ?_
  · intro i h0 h1
    have k := cn_le (p := fun k => cAt g (k % 24) (k / 24) ≠ -1) h0
    rw [cn_s h0, q_57_4, if_neg (by omega), if_pos (by omega), tab_at h ⟨h0, h1⟩, zw_id (x := i + 1) (by omega)]
    by_cases q : cAt g (i % 24) (i / 24) = -1
    · rw [if_pos q, bI_f (fun z => z q), Int.add_zero]
    · rw [if_neg q, bI_t q, zw_id (by omega)]
  · rw [q_57_4, if_pos (Int.le_refl _)]
    rfl
theorem o_count {w : Int} (hw : WF (M 139)) (hd : dgr M 1 (M 139)) (ht : M 84 5 = M 138 17) : qok (d + 12) 119 219 [zI w] M := by
  have hR := wf_R hw
  have hW := wf_W hw
  have done : ∀ v : Int, E (d + 12) 119 [zR 0, zI w] M = Rt (some (zI v)) M → E (d + 12) 219 [zR 138, zI w] M = Rt (some (zI v)) M → qok (d + 12) 119 219 [zI w] M := fun v h1 h2 => ⟨zI v, M, M, h1, frr_r, h2, fm_r⟩
  have ex := (en_119 (d := d + 11) w M).trans (q_119_0 w M)
  have em := fun N : ZM => (en_219 (d := d + 11) w N).trans (q_219_0 w N)
  have em0 := em M
  by_cases k0 : w = 0
  · rw [if_pos k0, h1R hd] at ex
    rw [if_pos k0] at em0
    exact done _ ex em0
  by_cases k1 : w = 1
  · rw [if_neg k0, if_pos k1, h1W hd] at ex
    rw [if_neg k0, if_pos k1] at em0
    exact done _ ex em0
  rw [if_neg k0, if_neg k1] at ex em0
  by_cases k2 : w = 2
  · rw [if_pos k2, x_locks hw hd, Cb_I, q_119_79] at ex
    refine done _ ex ?_
    rw [em0, if_pos k2]
    refine (lpv (fun i a => Q (d + 11) 219 74 [zR 138, zI w, zI a, zI i] [] M) (fun i => cn (isL (M 139)) i) (M 139 121) hW.1 ?_).trans ?_
    · intro i h0 h1
      have k := cn_le (p := isL (M 139)) h0
      rw [cn_s h0, q_219_74, if_neg (by omega), m_l (by omega), Cb_I, q_219_92, zw_id (x := i + 1) (by omega)]
      by_cases q : isL (M 139) i
      · rw [if_neg (by unfold isL at q; omega), bI_t q, zw_id (by omega)]
      · rw [if_pos (by unfold isL at q; omega), bI_f q, zw_id (by omega)]
    · rw [q_219_74, if_pos (Int.le_refl _)]
  rw [if_neg k2] at ex em0
  by_cases k3 : w = 3
  · rw [if_pos k3, x_keys hw hd, Cb_I, q_119_87] at ex
    refine done _ ex ?_
    rw [em0, if_pos k3]
    refine (lpv (fun i a => Q (d + 11) 219 112 [zR 138, zI w, zI a, zI i] [] M) (fun i => cn (isK (M 139)) i) (M 139 120) hR.1 ?_).trans ?_
    · intro i h0 h1
      have k := cn_le (p := isK (M 139)) h0
      rw [cn_s h0, q_219_112, if_neg (by omega), m_k (by omega), Cb_I, q_219_130, zw_id (x := i + 1) (by omega)]
      by_cases q : isK (M 139) i
      · rw [if_neg (by unfold isK at q; omega), bI_t q, zw_id (by omega)]
      · rw [if_pos (by unfold isK at q; omega), bI_f q, zw_id (by omega)]
    · rw [q_219_112, if_pos (Int.le_refl _)]
  rw [if_neg k3] at ex em0
  by_cases k4 : w = 4
  · rw [if_pos k4, x_roomCells hw hd, Cb_I, q_119_95] at ex
    refine done _ ex ?_
    rw [em0, if_pos k4]
    refine (lpv (fun i a => Q (d + 11) 219 150 [zR 138, zI w, zI a, zI i] [] M) (fun i => sm (fun r => gW (M 139) r * gH (M 139) r) i) (M 139 120) hR.1 ?_).trans ?_
    · intro i h0 h1
      have k := sm_le (f := fun r => gW (M 139) r * gH (M 139) r) (b := 144) (by omega) h0 (fun j h2 h3 => wf_wh hw ⟨h2, by omega⟩)
      have l := wf_wh hw ⟨h0, h1⟩
      rw [sm_s h0, q_219_150, if_neg (by omega), m_w (by omega), Cb_I, q_219_168, m_h (by omega), Cb_I, q_219_174, zw_id (x := i + 1) (by omega), zw_id (x := gW (M 139) i * gH (M 139) i) (by omega), zw_id (by omega)]
    · rw [q_219_150, if_pos (Int.le_refl _)]
  rw [if_neg k4] at ex em0
  by_cases k5 : w = 5
  · obtain ⟨M1, e1, f1, t1, t2, t3⟩ := x_draw (d := d + 7) hw hd
    have g1 : M1 139 = M 139 := f1 139 (by omega)
    have hw1 : WF (M1 139) := by rw [g1]; exact hw
    refine ⟨zI (ccN (M 139)), M1, M1, ?_, frr_v f1 (by omega) (by omega), ?_, fm_r⟩
    · rw [ex, if_pos k5, e1, Cb_V, q_119_107, x_corridorCells t2, Cb_I, q_119_114]
    · show E (d + 12) 219 [zR 138, zI w] M1 = _
      rw [em M1, if_neg k0, if_neg k1, if_neg k2, if_neg k3, if_neg k4, if_pos k5, ← g1]
      refine (lpv (fun i a => Q (d + 11) 219 187 [zR 138, zI w, zI a, zI i] [] M1) (fun i => cn (fun k => cAt (M1 139) (k % 24) (k / 24) ≠ -1) i) 384 (by omega) ?_).trans ?_
      · intro i h0 h1
        have k := cn_le (p := fun k => cAt (M1 139) (k % 24) (k / 24) ≠ -1) h0
        have b := cAt_rg hw1 (i % 24) (i / 24)
        rw [cn_s h0, q_219_187, if_neg (by omega), (tm24 ⟨h0, h1⟩).1, (tm24 ⟨h0, h1⟩).2, m_cAt hw1 (by omega) (by omega), Cb_I, q_219_208, zw_id (x := i + 1) (by omega)]
        by_cases q : cAt (M1 139) (i % 24) (i / 24) = -1
        · rw [if_pos (by omega), bI_f (fun z => z q), zw_id (by omega)]
        · rw [if_neg (by omega), bI_t q, zw_id (by omega)]
      · rw [q_219_187, if_pos (Int.le_refl _)]
        rfl
  rw [if_neg k5] at ex em0
  by_cases k6 : w = 6
  · rw [if_pos k6, x_deadEnds hw hd, Cb_I, q_119_122] at ex
    refine done _ ex ?_
    rw [em0, if_pos k6]
    refine (lpv (fun i a => Q (d + 11) 219 228 [zR 138, zI w, zI a, zI i] [] M) (fun i => cn (fun r => deg (M 139) r = 1) i) (M 139 120) hR.1 ?_).trans ?_
    · intro i h0 h1
      have k := cn_le (p := fun r => deg (M 139) r = 1) h0
      rw [cn_s h0, q_219_228, if_neg (by omega), m_degreeOf hW, Cb_I, q_219_245, zw_id (x := i + 1) (by omega)]
      by_cases q : deg (M 139) i = 1
      · rw [if_neg (fun z => z q), bI_t q, zw_id (by omega)]
      · rw [if_pos q, bI_f q, zw_id (by omega)]
    · rw [q_219_228, if_pos (Int.le_refl _)]
  rw [if_neg k6] at ex em0
  by_cases k7 : w = 7
  · obtain ⟨M1, e1, f1⟩ := m_groups (d := d + 8) (wo := -1) hw (by omega)
    rw [if_pos k7, x_groups hw hd, Cb_I, q_119_131] at ex
    rw [if_pos k7, e1, Cb_I, q_219_269] at em0
    exact ⟨_, M, M1, ex, frr_r, em0, fm_1 f1 (by omega)⟩
  rw [if_neg k7] at ex em0
  by_cases k8 : w = 8
  · rw [if_pos k8, x_bridges hw hd, Cb_I, q_119_139] at ex
    rw [if_pos k8] at em0
    have l : ∃ M', E (d + 12) 219 [zR 138, zI w] M = Rt (some (zI (cn (fun c => grN (M 139) (-1) < grN (M 139) c) (M 139 121)))) M' ∧ fm M M' := by
      rw [em0]
      generalize hg : M 139 = g at *
      refine lpi (fun i (M3 : ZM) => Q (d + 11) 219 272 [zR 138, zI w, zI (cn (fun c => grN g (-1) < grN g c) i), zI i] [] M3) (fun o => ∃ M', o = Rt (some (zI (cn (fun c => grN g (-1) < grN g c) (g 121)))) M' ∧ fm M M') (g 121) (fun i M3 => fr1 145 M M3) ?_ ?_ 0 M (by omega) fr1_r
      · intro i M3 h0 h1 f3
        have g3 : M3 139 = g := (f3 139 (by decide)).trans hg
        obtain ⟨M4, e4, f4⟩ := m_groups (d := d + 8) (M := M3) (wo := i) (by rw [g3]; exact hw) (by omega)
        have g4 : M4 139 = g := (f4 139 (by decide)).trans g3
        obtain ⟨M5, e5, f5⟩ := m_groups (d := d + 8) (M := M4) (wo := -1) (by rw [g4]; exact hw) (by omega)
        have k := cn_le (p := fun c => grN g (-1) < grN g c) h0
        refine Or.inr ⟨M5, ?_, fr1_t f3 (fr1_t f4 f5)⟩
        rw [cn_s h0, q_219_272, g3, if_neg (by omega), e4, Cb_I, q_219_289, e5, Cb_I, q_219_294, g3, g4, zw_id (x := i + 1) (by omega)]
        by_cases q : grN g (-1) < grN g i
        · rw [if_neg (by omega), bI_t q, zw_id (by omega)]
        · rw [if_pos (by omega), bI_f q, zw_id (by omega)]
      · intro M3 f3
        have g3 : M3 139 = g := (f3 139 (by decide)).trans hg
        exact ⟨M3, by rw [q_219_272, g3, if_pos (Int.le_refl _)], fm_1 f3 (by omega)⟩
    obtain ⟨M1, e1, f1⟩ := l
    exact ⟨_, M, M1, ex, frr_r, e1, f1⟩
  rw [if_neg k8] at ex em0
  by_cases k9 : w = 9
  · rw [if_pos k9, ht] at ex
    rw [if_pos k9] at em0
    exact done _ ex em0
  · rw [if_neg k9] at ex em0
    exact done _ ex em0
end
