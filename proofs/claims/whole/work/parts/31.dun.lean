/-! the class's small methods over a dungeon -/
theorem lpv {σ β : Type} (F : Int → σ → β) (v : Int → σ) (n : Int) (h0 : 0 ≤ n) (hs : ∀ i, 0 ≤ i → i < n → F i (v i) = F (i + 1) (v (i + 1))) : F 0 (v 0) = F n (v n) := by
  refine (lpi F (fun o => o = F n (v n)) n (fun i s => s = v i) ?_ ?_ 0 (v 0) (by omega) rfl)
  · intro i s h1 h2 h3
    subst h3
    exact Or.inr ⟨_, hs i h1 h2, rfl⟩
  · intro s h
    rw [h]
theorem lpf {β : Type} (F : Int → β) (p : Int → Prop) (G : Int → β) (n : Int) (h0 : 0 ≤ n) (hs : ∀ i, 0 ≤ i → i < n → ¬ p i → F i = F (i + 1)) (hy : ∀ i, 0 ≤ i → i < n → p i → F i = G i) (he : F n = G (-1)) : F 0 = G (fs p n) := by
  refine lpi (fun i (_ : Unit) => F i) (fun o => o = G (fs p n)) n (fun i _ => ∀ j, 0 ≤ j → j < i → ¬ p j) ?_ ?_ 0 () (by omega) (fun j h0 h1 => absurd h1 (by omega))
  · intro i _ h1 h2 h3
    by_cases k : p i
    · exact Or.inl ((hy i h1 h2 k).trans (by rw [fs_at ⟨h1, h2⟩ k h3]))
    · refine Or.inr ⟨(), hs i h1 h2 k, fun j h4 h5 => ?_⟩
      by_cases e : j = i
      · rw [e]; exact k
      · exact h3 j h4 (by omega)
  · intro _ h
    rw [he, fs_no h]
section
variable {d : Nat} {M : ZM} {g : Int → Int}
theorem h1R (h : dgr M 1 g) : M 1 8 = g 120 := dg_R h
theorem h1W (h : dgr M 1 g) : M 1 9 = g 121 := dg_W h
theorem h1E (h : dgr M 1 g) : M 1 10 = g 122 := dg_E h
theorem h1U (h : dgr M 1 g) : M 1 11 = g 123 := dg_U h
theorem h1x (h : dgr M 1 g) {r : Int} (hr : 0 ≤ r ∧ r < g 120) : M 2 r = gX g r := dg_x h hr
theorem h1y (h : dgr M 1 g) {r : Int} (hr : 0 ≤ r ∧ r < g 120) : M 3 r = gY g r := dg_y h hr
theorem h1w (h : dgr M 1 g) {r : Int} (hr : 0 ≤ r ∧ r < g 120) : M 4 r = gW g r := dg_w h hr
theorem h1h (h : dgr M 1 g) {r : Int} (hr : 0 ≤ r ∧ r < g 120) : M 5 r = gH g r := dg_h h hr
theorem h1k (h : dgr M 1 g) {r : Int} (hr : 0 ≤ r ∧ r < g 120) : M 6 r = gK g r := dg_k h hr
theorem h1a (h : dgr M 1 g) {c : Int} (hc : 0 ≤ c ∧ c < g 121) : M 7 c = gA g c := dg_a h hc
theorem h1b (h : dgr M 1 g) {c : Int} (hc : 0 ≤ c ∧ c < g 121) : M 8 c = gB g c := dg_b h hc
theorem h1l (h : dgr M 1 g) {c : Int} (hc : 0 ≤ c ∧ c < g 121) : M 9 c = gL g c := dg_l h hc
theorem x_hasRoom {r : Int} (hd : dgr M 1 g) : E (d + 1) 15 [zR 1, zI r] M = Rt (some (zI (bI (0 ≤ r ∧ r < g 120)))) M := by
  rw [en_15, q_15_0, h1R hd]
  by_cases h : 0 ≤ r ∧ r < g 120
  · rw [bI_t h, if_neg (by omega), if_neg (by omega)]
  · rw [bI_f h]
    by_cases h1 : r < 0
    · rw [if_pos h1]
    · rw [if_neg h1, if_pos (by omega)]
theorem x_hasCorridor {r : Int} (hd : dgr M 1 g) : E (d + 1) 16 [zR 1, zI r] M = Rt (some (zI (bI (0 ≤ r ∧ r < g 121)))) M := by
  rw [en_16, q_16_0, h1W hd]
  by_cases h : 0 ≤ r ∧ r < g 121
  · rw [bI_t h, if_neg (by omega), if_neg (by omega)]
  · rw [bI_f h]
    by_cases h1 : r < 0
    · rw [if_pos h1]
    · rw [if_neg h1, if_pos (by omega)]
theorem x_isColor (c : Int) : E (d + 1) 148 [zI c] M = Rt (some (zI (bI (-1 ≤ c ∧ c ≤ 5)))) M := by
  rw [en_148, q_148_0]
  by_cases h : -1 ≤ c ∧ c ≤ 5
  · rw [bI_t h, if_neg (by omega), if_neg (by omega)]
  · rw [bI_f h]
    by_cases h1 : c < -1
    · rw [if_pos h1]
    · rw [if_neg h1, if_pos (by omega)]
theorem x_told (c : Int) : E (d + 1) 147 [zI c] M = Rt (some (zI (if c = -1 then -104 else c))) M := by
  rw [en_147, q_147_0]
  by_cases h : c = -1
  · rw [if_pos h, if_neg (by omega)]
  · rw [if_neg h, if_pos (by omega)]
theorem x_holds {x j : Int} {p : Int → Prop} (h : ST x p) (hj : 0 ≤ j ∧ j < 30) : E (d + 1) 149 [zI x, zI j] M = Rt (some (zI (bI (p j)))) M := by
  rw [en_149, q_149_0, ST_at h hj]
  by_cases k : p j
  · rw [bI_t k, if_neg (by decide)]
  · rw [bI_f k, if_pos rfl]
def cel (x y : Int) : Int := if (0 ≤ x ∧ x < 24) ∧ 0 ≤ y ∧ y < 16 then 24 * y + x else -1
theorem x_cellAt (x y : Int) : E (d + 1) 150 [zI x, zI y] M = Rt (some (zI (cel x y))) M := by
  rw [en_150, q_150_0]
  unfold cel
  by_cases h : (0 ≤ x ∧ x < 24) ∧ 0 ≤ y ∧ y < 16
  · rw [if_pos h, if_neg (by omega), if_neg (by omega), if_neg (by omega), if_pos (by omega)]
    exact Rt_cg (by unfold zw; omega)
  · rw [if_neg h]
    by_cases h1 : x < 0
    · rw [if_pos h1]
    · rw [if_neg h1]
      by_cases h2 : 24 ≤ x
      · rw [if_pos h2]
      · rw [if_neg h2]
        by_cases h3 : y < 0
        · rw [if_pos h3]
        · rw [if_neg h3, if_neg (by omega)]
theorem x_ends {c r : Int} (hw : WF g) (hd : dgr M 1 g) (hc : 0 ≤ c ∧ c < g 121) : E (d + 1) 29 [zR 1, zI c, zI r] M = Rt (some (zI (bI (eds g c r)))) M := by
  have hW := wf_W hw
  rw [en_29, q_29_0, if_pos (by omega), h1a hd hc, h1b hd hc]
  by_cases h : gA g c = r
  · rw [if_pos h, bI_t (show eds g c r from Or.inl h)]
  · rw [if_neg h, if_pos (by omega)]
    by_cases h1 : gB g c = r
    · rw [if_neg (by omega), bI_t (show eds g c r from Or.inr h1)]
    · rw [if_pos h1, bI_f (show ¬ eds g c r from not_or.2 ⟨h, h1⟩)]
theorem isW_iff (hw : WF g) {a b c : Int} (hc : 0 ≤ c ∧ c < g 121) : isW g a b c ↔ a ≠ b ∧ eds g c a ∧ eds g c b := by
  have := wf_ab hw hc
  unfold isW eds
  omega
theorem x_between {a b : Int} (hw : WF g) (hd : dgr M 1 g) : E (d + 2) 30 [zR 1, zI a, zI b] M = Rt (some (zI (wayF g a b))) M := by
  have hW := wf_W hw
  rw [en_30, q_30_0]
  refine lpf (fun i => Q (d + 1) 30 2 [zR 1, zI a, zI b, zI i] [] M) (isW g a b) (fun v => Rt (some (zI v)) M) (g 121) hW.1 ?_ ?_ ?_
  · intro i h0 h1 k
    rw [isW_iff hw ⟨h0, h1⟩] at k
    rw [q_30_2, h1W hd, if_neg (by omega)]
    by_cases e : a = b
    · rw [if_pos e, zw_id (by omega)]
    · rw [if_neg e, x_ends hw hd ⟨h0, h1⟩, Cb_I, q_30_21]
      by_cases e1 : eds g i a
      · rw [if_neg (bI_n0.2 e1), x_ends hw hd ⟨h0, h1⟩, Cb_I, q_30_30, if_pos (bI_0.2 (fun e2 => k ⟨e, e1, e2⟩)), zw_id (by omega)]
      · rw [if_pos (bI_0.2 e1), zw_id (by omega)]
  · intro i h0 h1 k
    rw [isW_iff hw ⟨h0, h1⟩] at k
    rw [q_30_2, h1W hd, if_neg (by omega), if_neg k.1, x_ends hw hd ⟨h0, h1⟩, Cb_I, q_30_21, if_neg (bI_n0.2 k.2.1), x_ends hw hd ⟨h0, h1⟩, Cb_I, q_30_30, if_neg (bI_n0.2 k.2.2)]
  · rw [q_30_2, h1W hd, if_pos (Int.le_refl _)]
theorem x_corridorsOf {r : Int} (hw : WF g) (hd : dgr M 1 g) : E (d + 2) 31 [zR 1, zI r] M = Rt (some (zI (deg g r))) M := by
  have hW := wf_W hw
  rw [en_31, q_31_0]
  refine (lpv (fun i a => Q (d + 1) 31 4 [zR 1, zI r, zI a, zI i] [] M) (fun i => cn (fun c => eds g c r) i) (g 121) hW.1 ?_).trans ?_
  · intro i h0 h1
    have h3 := cn_le (p := fun c => eds g c r) h0
    rw [cn_s h0, q_31_4, h1W hd, if_neg (by omega), x_ends hw hd ⟨h0, h1⟩, Cb_I, q_31_18]
    by_cases k : eds g i r
    · rw [if_neg (bI_n0.2 k), bI_t k, zw_id (by omega), zw_id (by omega)]
    · rw [if_pos (bI_0.2 k), bI_f k, Int.add_zero, zw_id (by omega)]
  · rw [q_31_4, h1W hd, if_pos (Int.le_refl _)]
    rfl
theorem x_centerColumn {r : Int} (hw : WF g) (hd : dgr M 1 g) (hr : 0 ≤ r ∧ r < g 120) : E (d + 1) 32 [zR 1, zI r] M = Rt (some (zI (cX g r))) M := by
  have hR := wf_R hw
  have h := wf_r hw hr
  unfold wfR at h
  rw [en_32, q_32_0, if_pos (by omega), if_pos (by omega), h1x hd hr, h1w hd hr, tdv (by omega)]
  exact Rt_cg (by unfold cX zw; omega)
theorem x_centerRow {r : Int} (hw : WF g) (hd : dgr M 1 g) (hr : 0 ≤ r ∧ r < g 120) : E (d + 1) 33 [zR 1, zI r] M = Rt (some (zI (cY g r))) M := by
  have hR := wf_R hw
  have h := wf_r hw hr
  unfold wfR at h
  rw [en_33, q_33_0, if_pos (by omega), if_pos (by omega), h1y hd hr, h1h hd hr, tdv (by omega)]
  exact Rt_cg (by unfold cY zw; omega)
theorem ab_z {x : Int} (h : -1000 < x ∧ x < 1000) : (if 0 ≤ zw x then zw x else zw (0 - zw x)) = ab x := by
  rw [zw_id (by omega)]
  unfold ab
  split
  · rfl
  · rw [zw_id (by omega)]; omega
theorem x_distance {r s : Int} (hw : WF g) (hd : dgr M 1 g) (hr : 0 ≤ r ∧ r < g 120) (hs : 0 ≤ s ∧ s < g 120) : E (d + 2) 34 [zR 1, zI r, zI s] M = Rt (some (zI (dst g r s))) M := by
  have h1 := cX_rg hw hr
  have h2 := cX_rg hw hs
  have h3 := cY_rg hw hr
  have h4 := cY_rg hw hs
  have h5 := dst_rg hw hr hs
  rw [en_34, q_34_0, x_centerColumn hw hd hr, Cb_I, q_34_5, x_centerColumn hw hd hs, Cb_I, q_34_10, ab_z (by omega), x_centerRow hw hd hr, Cb_I, q_34_19, x_centerRow hw hd hs, Cb_I, q_34_24, ab_z (by omega)]
  exact Rt_cg (zw_id (by unfold dst at h5; omega))
theorem x_opens {c x : Int} {p : Int → Prop} (hw : WF g) (hd : dgr M 1 g) (hc : 0 ≤ c ∧ c < g 121) (h : ST x p) : E (d + 2) 35 [zR 1, zI c, zI x] M = Rt (some (zI (bI (gL g c = -1 ∨ p (gL g c))))) M := by
  have hW := wf_W hw
  have hl := wf_l hw hc
  rw [en_35, q_35_0, if_pos (by omega), h1l hd hc]
  by_cases k : gL g c = -1
  · rw [if_pos k, bI_t (Or.inl k)]
  · rw [if_neg k, if_pos (by omega), x_holds h (by omega), Cb_I, q_35_20]
    by_cases k2 : p (gL g c)
    · rw [if_neg (bI_n0.2 k2), bI_t (Or.inr k2)]
    · rw [if_pos (bI_0.2 k2), bI_f (not_or.2 ⟨k, k2⟩)]
/-- the bit of a room's key, as a set -/
noncomputable def kb (g : Int → Int) (r : Int) : Int := if gK g r < 0 then 0 else zshl 1 (gK g r)
theorem ST_kb {r : Int} (hk : -1 ≤ gK g r ∧ gK g r ≤ 5) : ST (kb g r) (fun i => i = gK g r) := by
  unfold kb
  by_cases h : gK g r < 0
  · rw [if_pos h]
    exact ST_cg ST_0 (fun i h0 h1 => ⟨fun q => q.elim, fun q => by omega⟩)
  · rw [if_neg h]
    exact ST_1 (by omega)
theorem x_keyBit {r : Int} (hw : WF g) (hd : dgr M 1 g) (hr : 0 ≤ r ∧ r < g 120) : E (d + 1) 36 [zR 1, zI r] M = Rt (some (zI (kb g r))) M := by
  have hR := wf_R hw
  have hk := wf_k hw hr
  rw [en_36, q_36_0, if_pos (by omega), h1k hd hr]
  unfold kb
  by_cases k : gK g r = -1
  · rw [if_neg (by omega), if_pos (by omega)]
  · rw [if_pos k, if_pos (by omega), if_neg (by omega)]
theorem x_cellsOf {r : Int} (hw : WF g) (hd : dgr M 1 g) (hr : 0 ≤ r ∧ r < g 120) : E (d + 1) 39 [zR 1, zI r] M = Rt (some (zI (zw (gW g r * gH g r)))) M := by
  have hR := wf_R hw
  rw [en_39, q_39_0, if_pos (by omega), if_pos (by omega), h1w hd hr, h1h hd hr]
def isL (g : Int → Int) (c : Int) : Prop := 0 ≤ gL g c
def isK (g : Int → Int) (r : Int) : Prop := 0 ≤ gK g r
theorem x_locks (hw : WF g) (hd : dgr M 1 g) : E (d + 1) 37 [zR 1] M = Rt (some (zI (cn (isL g) (g 121)))) M := by
  have hW := wf_W hw
  rw [en_37, q_37_0]
  refine (lpv (fun i a => Q d 37 4 [zR 1, zI a, zI i] [] M) (fun i => cn (isL g) i) (g 121) hW.1 ?_).trans ?_
  · intro i h0 h1
    have h3 := cn_le (p := isL g) h0
    have h4 := wf_l hw ⟨h0, h1⟩
    rw [cn_s h0, q_37_4, h1W hd, if_neg (by omega), if_pos (by omega), h1l hd ⟨h0, h1⟩]
    by_cases k : gL g i = -1
    · rw [if_pos k, bI_f (show ¬ isL g i from fun q => by unfold isL at q; omega), Int.add_zero, zw_id (by omega)]
    · rw [if_neg k, bI_t (show isL g i from by unfold isL; omega), zw_id (by omega), zw_id (by omega)]
  · rw [q_37_4, h1W hd, if_pos (Int.le_refl _)]
theorem x_keys (hw : WF g) (hd : dgr M 1 g) : E (d + 1) 38 [zR 1] M = Rt (some (zI (cn (isK g) (g 120)))) M := by
  have hR := wf_R hw
  rw [en_38, q_38_0]
  refine (lpv (fun i a => Q d 38 4 [zR 1, zI a, zI i] [] M) (fun i => cn (isK g) i) (g 120) hR.1 ?_).trans ?_
  · intro i h0 h1
    have h3 := cn_le (p := isK g) h0
    have h4 := wf_k hw ⟨h0, h1⟩
    rw [cn_s h0, q_38_4, h1R hd, if_neg (by omega), if_pos (by omega), h1k hd ⟨h0, h1⟩]
    by_cases k : gK g i = -1
    · rw [if_pos k, bI_f (show ¬ isK g i from fun q => by unfold isK at q; omega), Int.add_zero, zw_id (by omega)]
    · rw [if_neg k, bI_t (show isK g i from by unfold isK; omega), zw_id (by omega), zw_id (by omega)]
  · rw [q_38_4, h1R hd, if_pos (Int.le_refl _)]
theorem wf_wh (hw : WF g) {r : Int} (hr : 0 ≤ r ∧ r < g 120) : 0 ≤ gW g r * gH g r ∧ gW g r * gH g r ≤ 144 := by
  have h := wf_r hw hr
  unfold wfR at h
  have h1 : 0 ≤ gW g r * gH g r := Int.mul_nonneg (by omega) (by omega)
  have h2 : gW g r * gH g r ≤ 12 * 12 := Int.mul_le_mul (by omega) (by omega) (by omega) (by omega)
  omega
theorem x_roomCells (hw : WF g) (hd : dgr M 1 g) : E (d + 2) 40 [zR 1] M = Rt (some (zI (sm (fun r => gW g r * gH g r) (g 120)))) M := by
  have hR := wf_R hw
  rw [en_40, q_40_0]
  refine (lpv (fun i a => Q (d + 1) 40 4 [zR 1, zI a, zI i] [] M) (fun i => sm (fun r => gW g r * gH g r) i) (g 120) hR.1 ?_).trans ?_
  · intro i h0 h1
    have h3 := sm_le (f := fun r => gW g r * gH g r) (b := 144) (by omega) h0 (fun j h2 h3 => wf_wh hw ⟨h2, by omega⟩)
    have h4 := wf_wh hw ⟨h0, h1⟩
    rw [sm_s h0, q_40_4, h1R hd, if_neg (by omega), x_cellsOf hw hd ⟨h0, h1⟩, Cb_I, q_40_18, zw_id (x := gW g i * gH g i) (by omega), zw_id (by omega), zw_id (by omega)]
  · rw [q_40_4, h1R hd, if_pos (Int.le_refl _)]
theorem x_deadEnds (hw : WF g) (hd : dgr M 1 g) : E (d + 3) 41 [zR 1] M = Rt (some (zI (cn (fun r => deg g r = 1) (g 120)))) M := by
  have hR := wf_R hw
  rw [en_41, q_41_0]
  refine (lpv (fun i a => Q (d + 2) 41 4 [zR 1, zI a, zI i] [] M) (fun i => cn (fun r => deg g r = 1) i) (g 120) hR.1 ?_).trans ?_
  · intro i h0 h1
    have h3 := cn_le (p := fun r => deg g r = 1) h0
    rw [cn_s h0, q_41_4, h1R hd, if_neg (by omega), x_corridorsOf hw hd, Cb_I, q_41_17]
    by_cases k : deg g i = 1
    · rw [if_neg (by omega), bI_t k, zw_id (by omega), zw_id (by omega)]
    · rw [if_pos k, bI_f k, Int.add_zero, zw_id (by omega)]
  · rw [q_41_4, h1R hd, if_pos (Int.le_refl _)]
end
