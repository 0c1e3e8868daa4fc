/-! the picture of a dungeon: a row g of numbers, as the reference has it -/
def gX (g : Int → Int) (r : Int) : Int := g (5 * r + 0)
def gY (g : Int → Int) (r : Int) : Int := g (5 * r + 1)
def gW (g : Int → Int) (r : Int) : Int := g (5 * r + 2)
def gH (g : Int → Int) (r : Int) : Int := g (5 * r + 3)
def gK (g : Int → Int) (r : Int) : Int := g (5 * r + 4)
def gA (g : Int → Int) (c : Int) : Int := g (60 + 3 * c + 0)
def gB (g : Int → Int) (c : Int) : Int := g (60 + 3 * c + 1)
def gL (g : Int → Int) (c : Int) : Int := g (60 + 3 * c + 2)
def cX (g : Int → Int) (r : Int) : Int := gX g r + gW g r / 2
def cY (g : Int → Int) (r : Int) : Int := gY g r + gH g r / 2
def ab (x : Int) : Int := if 0 ≤ x then x else -x
def dst (g : Int → Int) (a b : Int) : Int := ab (cX g a - cX g b) + ab (cY g a - cY g b)
def wfN (g : Int → Int) : Prop := (0 ≤ g 120 ∧ g 120 ≤ 12) ∧ (0 ≤ g 121 ∧ g 121 ≤ 20) ∧ (0 ≤ g 122 ∧ (g 122 < g 120 ∨ g 120 = 0 ∧ g 122 = 0)) ∧ (0 ≤ g 123 ∧ g 123 ≤ 2)
def wfR (g : Int → Int) (r : Int) : Prop := (2 ≤ gW g r ∧ gW g r ≤ 12) ∧ (2 ≤ gH g r ∧ gH g r ≤ 12) ∧ (0 ≤ gX g r ∧ gX g r + gW g r ≤ 24) ∧ (0 ≤ gY g r ∧ gY g r + gH g r ≤ 16) ∧ (-1 ≤ gK g r ∧ gK g r ≤ 5)
def wfP (g : Int → Int) (r s : Int) : Prop := gX g r + gW g r ≤ gX g s ∨ gX g s + gW g s ≤ gX g r ∨ gY g r + gH g r ≤ gY g s ∨ gY g s + gH g s ≤ gY g r
def wfC (g : Int → Int) (c : Int) : Prop := (0 ≤ gA g c ∧ gA g c < gB g c ∧ gB g c < g 120) ∧ (-1 ≤ gL g c ∧ gL g c ≤ 5)
def WF (g : Int → Int) : Prop := wfN g ∧ (∀ r, 0 ≤ r → r < g 120 → wfR g r) ∧ (∀ r s, 0 ≤ r → r < g 120 → 0 ≤ s → s < g 120 → r ≠ s → wfP g r s) ∧ (∀ c, 0 ≤ c → c < g 121 → wfC g c) ∧ (∀ c e, 0 ≤ c → c < g 121 → 0 ≤ e → e < g 121 → gA g c = gA g e → gB g c = gB g e → c = e)
def dgR (M : ZM) (D : Nat) (g : Int → Int) (r : Int) : Prop := M (D + 1) r = gX g r ∧ M (D + 2) r = gY g r ∧ M (D + 3) r = gW g r ∧ M (D + 4) r = gH g r ∧ M (D + 5) r = gK g r
def dgC (M : ZM) (D : Nat) (g : Int → Int) (c : Int) : Prop := M (D + 6) c = gA g c ∧ M (D + 7) c = gB g c ∧ M (D + 8) c = gL g c
def dgr (M : ZM) (D : Nat) (g : Int → Int) : Prop := (M D 8 = g 120 ∧ M D 9 = g 121 ∧ M D 10 = g 122 ∧ M D 11 = g 123) ∧ (∀ r, 0 ≤ r → r < g 120 → dgR M D g r) ∧ (∀ c, 0 ≤ c → c < g 121 → dgC M D g c)
section
variable {g : Int → Int}
theorem wf_R (h : WF g) : 0 ≤ g 120 ∧ g 120 ≤ 12 := h.1.1
theorem wf_W (h : WF g) : 0 ≤ g 121 ∧ g 121 ≤ 20 := h.1.2.1
theorem wf_E (h : WF g) : 0 ≤ g 122 ∧ (g 122 < g 120 ∨ g 120 = 0 ∧ g 122 = 0) := h.1.2.2.1
theorem wf_U (h : WF g) : 0 ≤ g 123 ∧ g 123 ≤ 2 := h.1.2.2.2
theorem wf_r (h : WF g) {r : Int} (hr : 0 ≤ r ∧ r < g 120) : wfR g r := h.2.1 r hr.1 hr.2
theorem wf_c (h : WF g) {c : Int} (hc : 0 ≤ c ∧ c < g 121) : wfC g c := h.2.2.2.1 c hc.1 hc.2
theorem wf_k (h : WF g) {r : Int} (hr : 0 ≤ r ∧ r < g 120) : -1 ≤ gK g r ∧ gK g r ≤ 5 := (wf_r h hr).2.2.2.2
theorem wf_l (h : WF g) {c : Int} (hc : 0 ≤ c ∧ c < g 121) : -1 ≤ gL g c ∧ gL g c ≤ 5 := (wf_c h hc).2
theorem wf_ab (h : WF g) {c : Int} (hc : 0 ≤ c ∧ c < g 121) : 0 ≤ gA g c ∧ gA g c < gB g c ∧ gB g c < g 120 := (wf_c h hc).1
theorem cX_rg (h : WF g) {r : Int} (hr : 0 ≤ r ∧ r < g 120) : 1 ≤ cX g r ∧ cX g r < 24 := by
  have := wf_r h hr
  unfold wfR at this
  unfold cX
  omega
theorem cY_rg (h : WF g) {r : Int} (hr : 0 ≤ r ∧ r < g 120) : 1 ≤ cY g r ∧ cY g r < 16 := by
  have := wf_r h hr
  unfold wfR at this
  unfold cY
  omega
theorem dst_rg (h : WF g) {r s : Int} (hr : 0 ≤ r ∧ r < g 120) (hs : 0 ≤ s ∧ s < g 120) : 0 ≤ dst g r s ∧ dst g r s < 38 := by
  have := cX_rg h hr
  have := cX_rg h hs
  have := cY_rg h hr
  have := cY_rg h hs
  unfold dst ab
  split <;> split <;> omega
variable {M : ZM} {D : Nat}
theorem dg_R (h : dgr M D g) : M D 8 = g 120 := h.1.1
theorem dg_W (h : dgr M D g) : M D 9 = g 121 := h.1.2.1
theorem dg_E (h : dgr M D g) : M D 10 = g 122 := h.1.2.2.1
theorem dg_U (h : dgr M D g) : M D 11 = g 123 := h.1.2.2.2
theorem dg_x (h : dgr M D g) {r : Int} (hr : 0 ≤ r ∧ r < g 120) : M (D + 1) r = gX g r := (h.2.1 r hr.1 hr.2).1
theorem dg_y (h : dgr M D g) {r : Int} (hr : 0 ≤ r ∧ r < g 120) : M (D + 2) r = gY g r := (h.2.1 r hr.1 hr.2).2.1
theorem dg_w (h : dgr M D g) {r : Int} (hr : 0 ≤ r ∧ r < g 120) : M (D + 3) r = gW g r := (h.2.1 r hr.1 hr.2).2.2.1
theorem dg_h (h : dgr M D g) {r : Int} (hr : 0 ≤ r ∧ r < g 120) : M (D + 4) r = gH g r := (h.2.1 r hr.1 hr.2).2.2.2.1
theorem dg_k (h : dgr M D g) {r : Int} (hr : 0 ≤ r ∧ r < g 120) : M (D + 5) r = gK g r := (h.2.1 r hr.1 hr.2).2.2.2.2
theorem dg_a (h : dgr M D g) {c : Int} (hc : 0 ≤ c ∧ c < g 121) : M (D + 6) c = gA g c := (h.2.2 c hc.1 hc.2).1
theorem dg_b (h : dgr M D g) {c : Int} (hc : 0 ≤ c ∧ c < g 121) : M (D + 7) c = gB g c := (h.2.2 c hc.1 hc.2).2.1
theorem dg_l (h : dgr M D g) {c : Int} (hc : 0 ≤ c ∧ c < g 121) : M (D + 8) c = gL g c := (h.2.2 c hc.1 hc.2).2.2
end
theorem tdv {x : Int} (h : 0 ≤ x) : x.tdiv 2 = x / 2 := Int.tdiv_eq_ediv_of_nonneg h
-- the reference's small methods
section
variable {d : Nat} {M : ZM}
theorem m_in (a b c : Int) : E (d + 1) 153 [zI a, zI b, zI c] M = Rt (some (zI (bI (b ≤ a ∧ a ≤ c)))) M := by
  rw [en_153, q_153_0]
  by_cases h : b ≤ a ∧ a ≤ c
  · rw [bI_t h, if_neg (by omega), if_neg (by omega)]
  · rw [bI_f h]
    by_cases h1 : a < b
    · rw [if_pos h1]
    · rw [if_neg h1, if_pos (by omega)]
theorem m_isRoom (r : Int) (h : 0 ≤ M 139 120 ∧ M 139 120 ≤ 12) : E (d + 2) 154 [zR 138, zI r] M = Rt (some (zI (bI (0 ≤ r ∧ r < M 139 120)))) M := by
  rw [en_154, q_154_0, m_in, Cb_I, q_154_14, if_pos bI_01, zw_id (by omega)]
  exact Rt_cg (bI_cg (by omega))
theorem m_isCorridor (r : Int) (h : 0 ≤ M 139 121 ∧ M 139 121 ≤ 20) : E (d + 2) 155 [zR 138, zI r] M = Rt (some (zI (bI (0 ≤ r ∧ r < M 139 121)))) M := by
  rw [en_155, q_155_0, m_in, Cb_I, q_155_14, if_pos bI_01, zw_id (by omega)]
  exact Rt_cg (bI_cg (by omega))
theorem m_of (r w : Int) (h : 0 ≤ w ∧ w < 5) (hr : 0 ≤ r ∧ r < 12) : E (d + 1) 156 [zR 138, zI r, zI w] M = Rt (some (zI (M 139 (5 * r + w)))) M := by
  rw [en_156, q_156_0]
  have e : zw (zw (0 + zw (5 * r)) + w) = 5 * r + w := by unfold zw; omega
  rw [e, if_pos (by omega)]
theorem m_way (c w : Int) (h : 0 ≤ w ∧ w < 3) (hr : 0 ≤ c ∧ c < 20) : E (d + 1) 157 [zR 138, zI c, zI w] M = Rt (some (zI (M 139 (60 + 3 * c + w)))) M := by
  rw [en_157, q_157_0]
  have e : zw (zw (60 + zw (3 * c)) + w) = 60 + 3 * c + w := by unfold zw; omega
  rw [e, if_pos (by omega)]
theorem m_x {r : Int} (hr : 0 ≤ r ∧ r < 12) : E (d + 1) 156 [zR 138, zI r, zI 0] M = Rt (some (zI (gX (M 139) r))) M := m_of r 0 (by omega) hr
theorem m_y {r : Int} (hr : 0 ≤ r ∧ r < 12) : E (d + 1) 156 [zR 138, zI r, zI 1] M = Rt (some (zI (gY (M 139) r))) M := m_of r 1 (by omega) hr
theorem m_w {r : Int} (hr : 0 ≤ r ∧ r < 12) : E (d + 1) 156 [zR 138, zI r, zI 2] M = Rt (some (zI (gW (M 139) r))) M := m_of r 2 (by omega) hr
theorem m_h {r : Int} (hr : 0 ≤ r ∧ r < 12) : E (d + 1) 156 [zR 138, zI r, zI 3] M = Rt (some (zI (gH (M 139) r))) M := m_of r 3 (by omega) hr
theorem m_k {r : Int} (hr : 0 ≤ r ∧ r < 12) : E (d + 1) 156 [zR 138, zI r, zI 4] M = Rt (some (zI (gK (M 139) r))) M := m_of r 4 (by omega) hr
theorem m_a {c : Int} (hr : 0 ≤ c ∧ c < 20) : E (d + 1) 157 [zR 138, zI c, zI 0] M = Rt (some (zI (gA (M 139) c))) M := m_way c 0 (by omega) hr
theorem m_b {c : Int} (hr : 0 ≤ c ∧ c < 20) : E (d + 1) 157 [zR 138, zI c, zI 1] M = Rt (some (zI (gB (M 139) c))) M := m_way c 1 (by omega) hr
theorem m_l {c : Int} (hr : 0 ≤ c ∧ c < 20) : E (d + 1) 157 [zR 138, zI c, zI 2] M = Rt (some (zI (gL (M 139) c))) M := m_way c 2 (by omega) hr
theorem m_told (c : Int) : E (d + 1) 169 [zI c] M = Rt (some (zI (if c = -1 then -104 else c))) M := by
  rw [en_169, q_169_0]
  by_cases h : c = -1
  · rw [if_pos h, if_neg (by omega)]
  · rw [if_neg h, if_pos (by omega)]
theorem m_columnOf {r : Int} (hr : 0 ≤ r ∧ r < 12) (h : wfR (M 139) r) : E (d + 2) 158 [zR 138, zI r] M = Rt (some (zI (cX (M 139) r))) M := by
  unfold wfR at h
  rw [en_158, q_158_0, m_x hr, Cb_I, q_158_6, m_w hr, Cb_I, q_158_12, tdv (by omega)]
  refine Rt_cg ?_
  unfold cX zw
  omega
theorem m_rowOf {r : Int} (hr : 0 ≤ r ∧ r < 12) (h : wfR (M 139) r) : E (d + 2) 159 [zR 138, zI r] M = Rt (some (zI (cY (M 139) r))) M := by
  unfold wfR at h
  rw [en_159, q_159_0, m_y hr, Cb_I, q_159_6, m_h hr, Cb_I, q_159_12, tdv (by omega)]
  refine Rt_cg ?_
  unfold cY zw
  omega
theorem m_off (a b : Int) (h : -1000 < a ∧ a < 1000 ∧ -1000 < b ∧ b < 1000) : E (d + 1) 160 [zI a, zI b] M = Rt (some (zI (ab (a - b)))) M := by
  rw [en_160, q_160_0]
  unfold ab
  by_cases k : b ≤ a
  · rw [if_pos k, if_pos (by omega), zw_id (by omega)]
  · rw [if_neg k, if_neg (by omega), zw_id (by omega)]
    exact Rt_cg (by omega)
theorem m_distance {r s : Int} (h : WF (M 139)) (hr : 0 ≤ r ∧ r < M 139 120) (hs : 0 ≤ s ∧ s < M 139 120) : E (d + 3) 161 [zR 138, zI r, zI s] M = Rt (some (zI (dst (M 139) r s))) M := by
  have hR := wf_R h
  have h1 := cX_rg h hr
  have h2 := cX_rg h hs
  have h3 := cY_rg h hr
  have h4 := cY_rg h hs
  have h5 := dst_rg h hr hs
  rw [en_161, q_161_0, m_columnOf (by omega) (wf_r h hr), Cb_I, q_161_5, m_columnOf (by omega) (wf_r h hs), Cb_I, q_161_10, m_off _ _ (by omega), Cb_I, q_161_13, m_rowOf (by omega) (wf_r h hr), Cb_I, q_161_18, m_rowOf (by omega) (wf_r h hs), Cb_I, q_161_23, m_off _ _ (by omega), Cb_I, q_161_26]
  exact Rt_cg (zw_id (by unfold dst at h5; omega))
theorem m_keyBit {r : Int} (hr : 0 ≤ r ∧ r < 12) : E (d + 2) 233 [zR 138, zI r] M = Rt (some (zI (if gK (M 139) r < 0 then 0 else zshl 1 (gK (M 139) r)))) M := by
  rw [en_233, q_233_0, m_k hr, Cb_I, q_233_6]
  by_cases h : gK (M 139) r < 0
  · rw [if_pos h, if_pos h]
  · rw [if_neg h, if_neg h, m_k hr, Cb_I, q_233_16]
def eds (g : Int → Int) (c r : Int) : Prop := gA g c = r ∨ gB g c = r
noncomputable def deg (g : Int → Int) (r : Int) : Int := cn (fun c => eds g c r) (g 121)
theorem m_degreeOf {r : Int} (h : 0 ≤ M 139 121 ∧ M 139 121 ≤ 20) : E (d + 2) 189 [zR 138, zI r] M = Rt (some (zI (deg (M 139) r))) M := by
  rw [en_189, q_189_0]
  refine lpi (fun i a => Q (d + 1) 189 4 [zR 138, zI r, zI a, zI i] [] M) (fun o => o = _) (M 139 121) (fun i a => a = cn (fun c => eds (M 139) c r) i) ?_ ?_ 0 0 (by omega) rfl
  · intro i a h0 h1 h2
    have h3 := cn_le (p := fun c => eds (M 139) c r) h0
    refine Or.inr ⟨cn (fun c => eds (M 139) c r) (i + 1), ?_, rfl⟩
    rw [cn_s h0]
    subst h2
    rw [q_189_4, if_neg (by omega), m_a (by omega), Cb_I, q_189_22]
    by_cases k : gA (M 139) i = r
    · rw [if_pos k, bI_t (show eds _ _ _ from Or.inl k), zw_id (by omega), zw_id (by omega)]
    · rw [if_neg k, m_b (by omega), Cb_I, q_189_32]
      by_cases l : gB (M 139) i = r
      · rw [if_neg (by omega), bI_t (show eds _ _ _ from Or.inr l), zw_id (by omega), zw_id (by omega)]
      · rw [if_pos l, bI_f (show ¬ eds _ _ _ from not_or.2 ⟨k, l⟩), zw_id (by omega), zw_id (by omega)]
  · intro a h1
    rw [q_189_4, if_pos (Int.le_refl _), h1]
    rfl
def isW (g : Int → Int) (a b c : Int) : Prop := gA g c = a ∧ gB g c = b ∨ gA g c = b ∧ gB g c = a
noncomputable def wayF (g : Int → Int) (a b : Int) : Int := fs (isW g a b) (g 121)
theorem m_wayBetween {a b : Int} (h : 0 ≤ M 139 121 ∧ M 139 121 ≤ 20) : E (d + 2) 167 [zR 138, zI a, zI b] M = Rt (some (zI (wayF (M 139) a b))) M := by
  rw [en_167, q_167_0]
  refine lpi (fun i (_ : Unit) => Q (d + 1) 167 2 [zR 138, zI a, zI b, zI i] [] M) (fun o => o = _) (M 139 121) (fun i _ => ∀ j, 0 ≤ j → j < i → ¬ isW (M 139) a b j) ?_ ?_ 0 () (by omega) (fun j h0 h1 => absurd h1 (by omega))
  · intro i _ h0 h1 h2
    by_cases k : isW (M 139) a b i
    · refine Or.inl ?_
      have e : wayF (M 139) a b = i := fs_at ⟨h0, h1⟩ k h2
      rw [e]
      unfold isW at k
      rw [q_167_2, if_neg (by omega), m_a (by omega), Cb_I, q_167_19]
      by_cases k1 : gA (M 139) i = a
      · rw [if_neg (by omega), m_b (by omega), Cb_I, q_167_29]
        by_cases k2 : gB (M 139) i = b
        · rw [if_pos k2]
        · rw [if_neg k2, m_a (by omega), Cb_I, q_167_39, if_neg (by omega), m_b (by omega), Cb_I, q_167_49, if_neg (by omega)]
      · rw [if_pos k1, m_a (by omega), Cb_I, q_167_39, if_neg (by omega), m_b (by omega), Cb_I, q_167_49, if_neg (by omega)]
    · refine Or.inr ⟨(), ?_, ?_⟩
      · unfold isW at k
        rw [q_167_2, if_neg (by omega), m_a (by omega), Cb_I, q_167_19]
        by_cases k1 : gA (M 139) i = a
        · rw [if_neg (by omega), m_b (by omega), Cb_I, q_167_29, if_neg (by omega), m_a (by omega), Cb_I, q_167_39]
          by_cases k2 : gA (M 139) i = b
          · rw [if_neg (by omega), m_b (by omega), Cb_I, q_167_49, if_pos (by omega), zw_id (by omega)]
          · rw [if_pos k2, zw_id (by omega)]
        · rw [if_pos k1, m_a (by omega), Cb_I, q_167_39]
          by_cases k2 : gA (M 139) i = b
          · rw [if_neg (by omega), m_b (by omega), Cb_I, q_167_49, if_pos (by omega), zw_id (by omega)]
          · rw [if_pos k2, zw_id (by omega)]
      · intro j h3 h4
        by_cases e : j = i
        · rw [e]; exact k
        · exact h2 j h3 (by omega)
  · intro _ h1
    rw [q_167_2, if_pos (Int.le_refl _)]
    exact Rt_cg (fs_no h1).symm
end
