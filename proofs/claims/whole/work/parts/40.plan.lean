/-! cells of rooms and corridors; the reference's roomAt, has, corridorAt -/
def btw (v p q : Int) : Prop := p ≤ v ∧ v ≤ q ∨ q ≤ v ∧ v ≤ p
def acN (e dx dy i : Int) : Int := if e = 0 then (if ab dx < i then ab dx else i) else (if 0 < i - ab dy then i - ab dy else 0)
def wxN (e dx dy i : Int) : Int := sg_of dx * acN e dx dy i
def wyN (e dx dy i : Int) : Int := sg_of dy * (i - acN e dx dy i)
theorem ab_rg (x : Int) : 0 ≤ ab x := by unfold ab; split <;> omega
theorem ab_c (x : Int) : 0 ≤ x ∧ ab x = x ∨ x < 0 ∧ ab x = -x := by unfold ab; split <;> omega
theorem sg_mul {x a : Int} (h : 0 ≤ a ∧ a ≤ ab x) : btw (sg_of x * a) 0 x ∧ ab (sg_of x * a) = a ∧ (a = ab x → sg_of x * a = x) ∧ (a = 0 → sg_of x * a = 0) := by
  have k := ab_c x
  have : sg_of x * a = a ∧ 0 ≤ x ∨ sg_of x * a = -a ∧ x < 0 := by
    unfold sg_of
    by_cases h1 : x < 0
    · rw [if_pos h1]
      omega
    · rw [if_neg h1]
      by_cases h2 : x = 0
      · rw [if_pos h2]
        omega
      · rw [if_neg h2]
        omega
  generalize sg_of x * a = m at *
  have := ab_c m
  unfold btw
  omega
theorem sg_ab {x u : Int} (h : btw u 0 x) : sg_of x * ab u = u ∧ ab u ≤ ab x := by
  have k := ab_c x
  have l := ab_c u
  unfold btw at h
  unfold sg_of
  by_cases h1 : x < 0
  · rw [if_pos h1]
    omega
  · rw [if_neg h1]
    by_cases h2 : x = 0
    · rw [if_pos h2]
      omega
    · rw [if_neg h2]
      omega
theorem ac_sp {e dx dy i : Int} (h : 0 ≤ i ∧ i ≤ ab dx + ab dy) : (0 ≤ acN e dx dy i ∧ acN e dx dy i ≤ ab dx) ∧ (0 ≤ i - acN e dx dy i ∧ i - acN e dx dy i ≤ ab dy) ∧ (e = 0 → acN e dx dy i = ab dx ∨ i - acN e dx dy i = 0) ∧ (e ≠ 0 → acN e dx dy i = 0 ∨ i - acN e dx dy i = ab dy) := by
  have k1 := ab_rg dx
  have k2 := ab_rg dy
  unfold acN
  by_cases q : e = 0
  · rw [if_pos q]
    split <;> omega
  · rw [if_neg q]
    split <;> omega
theorem ac_ab {e dx dy a b : Int} (h1 : 0 ≤ a ∧ a ≤ ab dx) (h2 : 0 ≤ b ∧ b ≤ ab dy) (h : e = 0 ∧ (a = ab dx ∨ b = 0) ∨ e ≠ 0 ∧ (a = 0 ∨ b = ab dy)) : acN e dx dy (a + b) = a := by
  unfold acN
  rcases h with ⟨q, h⟩ | ⟨q, h⟩
  · rw [if_pos q]
    split <;> omega
  · rw [if_neg q]
    split <;> omega
def hit (e dx dy u v : Int) : Prop := btw u 0 dx ∧ v = (if e = 0 then 0 else dy) ∨ btw v 0 dy ∧ u = (if e = 0 then dx else 0)
theorem way_hit {e dx dy u v : Int} : (∃ i, (0 ≤ i ∧ i ≤ ab dx + ab dy) ∧ u = wxN e dx dy i ∧ v = wyN e dx dy i) ↔ hit e dx dy u v := by
  constructor
  · rintro ⟨i, h, rfl, rfl⟩
    obtain ⟨k1, k2, k3, k4⟩ := ac_sp (e := e) h
    obtain ⟨s1, s2, s3, s4⟩ := sg_mul k1
    obtain ⟨t1, t2, t3, t4⟩ := sg_mul k2
    unfold hit wxN wyN
    by_cases q : e = 0
    · rw [if_pos q, if_pos q]
      rcases k3 q with z | z
      · exact Or.inr ⟨t1, s3 z⟩
      · exact Or.inl ⟨s1, t4 z⟩
    · rw [if_neg q, if_neg q]
      rcases k4 q with z | z
      · exact Or.inr ⟨t1, s4 z⟩
      · exact Or.inl ⟨s1, t3 z⟩
  · intro h
    have ex : btw u 0 dx → btw v 0 dy → (e = 0 ∧ (u = dx ∨ v = 0) ∨ e ≠ 0 ∧ (u = 0 ∨ v = dy)) → ∃ i, (0 ≤ i ∧ i ≤ ab dx + ab dy) ∧ u = wxN e dx dy i ∧ v = wyN e dx dy i := by
      intro b1 b2 b3
      obtain ⟨p1, p2⟩ := sg_ab b1
      obtain ⟨p3, p4⟩ := sg_ab b2
      have r1 := ab_rg u
      have r2 := ab_rg v
      have c1 := ab_c u
      have c2 := ab_c v
      have a := ac_ab (e := e) ⟨r1, p2⟩ ⟨r2, p4⟩ (by
        rcases b3 with ⟨q, z | z⟩ | ⟨q, z | z⟩
        · exact Or.inl ⟨q, Or.inl (by rw [z])⟩
        · exact Or.inl ⟨q, Or.inr (by omega)⟩
        · exact Or.inr ⟨q, Or.inl (by omega)⟩
        · exact Or.inr ⟨q, Or.inr (by rw [z])⟩)
      refine ⟨ab u + ab v, by omega, ?_, ?_⟩
      · unfold wxN
        rw [a, p1]
      · unfold wyN
        rw [a, show ab u + ab v - ab u = ab v by omega, p3]
    have b0 : ∀ z : Int, btw 0 0 z := fun z => by unfold btw; omega
    have b1 : ∀ z : Int, btw z 0 z := fun z => by unfold btw; omega
    unfold hit at h
    by_cases q : e = 0
    · rw [if_pos q, if_pos q] at h
      rcases h with ⟨h1, h2⟩ | ⟨h1, h2⟩
      · exact ex h1 (by rw [h2]; exact b0 _) (Or.inl ⟨q, Or.inr h2⟩)
      · exact ex (by rw [h2]; exact b1 _) h1 (Or.inl ⟨q, Or.inl h2⟩)
    · rw [if_neg q, if_neg q] at h
      rcases h with ⟨h1, h2⟩ | ⟨h1, h2⟩
      · exact ex h1 (by rw [h2]; exact b1 _) (Or.inr ⟨q, Or.inr h2⟩)
      · exact ex (by rw [h2]; exact b0 _) h1 (Or.inr ⟨q, Or.inl h2⟩)
theorem way_inv {e dx dy i : Int} (h : 0 ≤ i ∧ i ≤ ab dx + ab dy) : ab (wxN e dx dy i) + ab (wyN e dx dy i) = i := by
  obtain ⟨k1, k2, k3, k4⟩ := ac_sp (e := e) h
  have s := (sg_mul k1).2.1
  have t := (sg_mul k2).2.1
  unfold wxN wyN
  omega
theorem hit_b {e dx dy u v : Int} (h : hit e dx dy u v) : btw u 0 dx ∧ btw v 0 dy := by
  have b0 : ∀ z : Int, btw 0 0 z := fun z => by unfold btw; omega
  have b1 : ∀ z : Int, btw z 0 z := fun z => by unfold btw; omega
  unfold hit at h
  by_cases q : e = 0
  · rw [if_pos q, if_pos q] at h
    rcases h with ⟨h1, h2⟩ | ⟨h1, h2⟩
    · exact ⟨h1, by rw [h2]; exact b0 _⟩
    · exact ⟨by rw [h2]; exact b1 _, h1⟩
  · rw [if_neg q, if_neg q] at h
    rcases h with ⟨h1, h2⟩ | ⟨h1, h2⟩
    · exact ⟨h1, by rw [h2]; exact b1 _⟩
    · exact ⟨by rw [h2]; exact b0 _, h1⟩
def inR (g : Int → Int) (x y r : Int) : Prop := (gX g r ≤ x ∧ x < gX g r + gW g r) ∧ gY g r ≤ y ∧ y < gY g r + gH g r
noncomputable def rAt (g : Int → Int) (x y : Int) : Int := fs (inR g x y) (g 120)
def dX (g : Int → Int) (c : Int) : Int := cX g (gB g c) - cX g (gA g c)
def dY (g : Int → Int) (c : Int) : Int := cY g (gB g c) - cY g (gA g c)
def onW (g : Int → Int) (x y c : Int) : Prop := hit (c % 2) (dX g c) (dY g c) (x - cX g (gA g c)) (y - cY g (gA g c))
def has (g : Int → Int) (x y c : Int) : Prop := onW g x y c ∧ rAt g x y = -1
noncomputable def cAt (g : Int → Int) (x y : Int) : Int := fs (has g x y) (g 121)
noncomputable def lAt (g : Int → Int) (x y : Int) : Int := fs (fun c => has g x y c ∧ isL g c) (g 121)
section
variable {d : Nat} {M : ZM} {g : Int → Int}
theorem inR_1 (hw : WF g) {x y r s : Int} (hr : 0 ≤ r ∧ r < g 120) (hs : 0 ≤ s ∧ s < g 120) (h1 : inR g x y r) (h2 : inR g x y s) : r = s := by
  refine Classical.byContradiction fun ne => ?_
  have := hw.2.2.1 r s hr.1 hr.2 hs.1 hs.2 ne
  unfold wfP at this
  unfold inR at h1 h2
  omega
theorem m_roomAt {x y : Int} (hw : WF (M 139)) (hx : -1000 < x ∧ x < 1000) (hy : -1000 < y ∧ y < 1000) : E (d + 2) 165 [zR 138, zI x, zI y] M = Rt (some (zI (rAt (M 139) x y))) M := by
  have hR := wf_R hw
  rw [en_165, q_165_0]
  refine lpf (fun i => Q (d + 1) 165 2 [zR 138, zI x, zI y, zI i] [] M) (inR (M 139) x y) (fun v => Rt (some (zI v)) M) (M 139 120) hR.1 ?_ ?_ ?_
  · intro i h0 h1 k
    have h := wf_r hw ⟨h0, h1⟩
    unfold wfR at h
    unfold inR at k
    rw [q_165_2, if_neg (by omega), m_x (by omega), Cb_I, q_165_20, m_w (by omega), Cb_I, q_165_28, m_in, Cb_I, q_165_33, zw_id (x := x - gX (M 139) i) (by omega), zw_id (x := gW (M 139) i - 1) (by omega), zw_id (x := i + 1) (by omega)]
    by_cases k1 : 0 ≤ x - gX (M 139) i ∧ x - gX (M 139) i ≤ gW (M 139) i - 1
    · rw [if_neg (bI_n0.2 k1), m_y (by omega), Cb_I, q_165_43, m_h (by omega), Cb_I, q_165_51, m_in, Cb_I, q_165_56, zw_id (x := y - gY (M 139) i) (by omega), zw_id (x := gH (M 139) i - 1) (by omega), if_pos (bI_0.2 (by omega)), zw_id (by omega)]
    · rw [if_pos (bI_0.2 k1)]
  · intro i h0 h1 k
    have h := wf_r hw ⟨h0, h1⟩
    unfold wfR at h
    unfold inR at k
    rw [q_165_2, if_neg (by omega), m_x (by omega), Cb_I, q_165_20, m_w (by omega), Cb_I, q_165_28, m_in, Cb_I, q_165_33, zw_id (x := x - gX (M 139) i) (by omega), zw_id (x := gW (M 139) i - 1) (by omega), if_neg (bI_n0.2 (by omega)), m_y (by omega), Cb_I, q_165_43, m_h (by omega), Cb_I, q_165_51, m_in, Cb_I, q_165_56, zw_id (x := y - gY (M 139) i) (by omega), zw_id (x := gH (M 139) i - 1) (by omega), if_neg (bI_n0.2 (by omega))]
  · rw [q_165_2, if_pos (Int.le_refl _)]
theorem m_isFrom (v a b : Int) : E (d + 2) 209 [zI v, zI a, zI b] M = Rt (some (zI (bI (btw v a b)))) M := by
  rw [en_209, q_209_0]
  unfold btw
  by_cases h : b ≤ a
  · rw [if_pos h, m_in, Cb_I, q_209_20, if_pos bI_01]
    exact Rt_cg (bI_cg (by omega))
  · rw [if_neg h, m_in, Cb_I, q_209_11, q_209_20, if_pos bI_01]
    exact Rt_cg (bI_cg (by omega))
theorem m_has {c x y : Int} (hw : WF (M 139)) (hc : 0 ≤ c ∧ c < M 139 121) (hx : -1000 < x ∧ x < 1000) (hy : -1000 < y ∧ y < 1000) : E (d + 3) 210 [zR 138, zI c, zI x, zI y] M = Rt (some (zI (bI (has (M 139) x y c)))) M := by
  have hR := wf_R hw
  have hW := wf_W hw
  have hab := wf_ab hw hc
  have tm : c.tmod 2 = c % 2 := Int.tmod_eq_emod_of_nonneg hc.1
  have hA : 0 ≤ gA (M 139) c ∧ gA (M 139) c < 12 := by omega
  have hB : 0 ≤ gB (M 139) c ∧ gB (M 139) c < 12 := by omega
  have wA := wf_r hw (r := gA (M 139) c) (by omega)
  have wB := wf_r hw (r := gB (M 139) c) (by omega)
  rw [en_210, q_210_0, m_a (by omega), Cb_I, q_210_6, m_b (by omega), Cb_I, q_210_14, m_columnOf hA wA, Cb_I, q_210_23, m_columnOf hB wB, Cb_I, q_210_29, m_isFrom, Cb_I, q_210_32, tm]
  have e134 : ∀ (v6 v7 : Int), E (d + 2) 165 [zR 138, zI x, zI y] M = Rt (some (zI (rAt (M 139) x y))) M := fun _ _ => m_roomAt hw hx hy
  unfold has onW hit dX dY
  generalize hax : cX (M 139) (gA (M 139) c) = ax
  generalize hbx : cX (M 139) (gB (M 139) c) = bx
  generalize hay : cY (M 139) (gA (M 139) c) = ay
  generalize hby : cY (M 139) (gB (M 139) c) = yb
  -- the answer, once both parts of the way are asked
  have fin : ∀ (v6 v7 : Int) (p : Prop), (p ↔ (btw (x - ax) 0 (bx - ax) ∧ y - ay = (if c % 2 = 0 then 0 else yb - ay) ∨ btw (y - ay) 0 (yb - ay) ∧ x - ax = (if c % 2 = 0 then bx - ax else 0))) → (p → Cb (E (d + 2) 165 [zR 138, zI x, zI y] M) (fun v h => zrun (zevl (d + 2)) 210 134 [zR 138, zI c, zI x, zI y, zI (gA (M 139) c), zI (gB (M 139) c), zI v6, zI v7] (v.toList ++ []) h) = Rt (some (zI (bI ((btw (x - ax) 0 (bx - ax) ∧ y - ay = (if c % 2 = 0 then 0 else yb - ay) ∨ btw (y - ay) 0 (yb - ay) ∧ x - ax = (if c % 2 = 0 then bx - ax else 0)) ∧ rAt (M 139) x y = -1)))) M) := by
    intro v6 v7 p h1 h2
    rw [e134 0 0, Cb_I, q_210_134]
    by_cases k : rAt (M 139) x y = -1
    · rw [if_neg (fun q => q k), bI_t ⟨h1.1 h2, k⟩]
    · rw [if_pos k, bI_f (fun q => k q.2)]
  have b1 : btw x ax bx ↔ btw (x - ax) 0 (bx - ax) := by unfold btw; omega
  have b2 : btw y ay yb ↔ btw (y - ay) 0 (yb - ay) := by unfold btw; omega
  -- the second part
  have snd : ∀ (v6 : Int), (v6 = 0 ∨ v6 = 1) → (v6 = 1 ↔ (btw (x - ax) 0 (bx - ax) ∧ y - ay = (if c % 2 = 0 then 0 else yb - ay))) → Cb (E (d + 2) 159 [zR 138, zI (gA (M 139) c)] M) (fun v h => zrun (zevl (d + 2)) 210 74 [zR 138, zI c, zI x, zI y, zI (gA (M 139) c), zI (gB (M 139) c), zI v6, zU] (v.toList ++ [zI y]) h) = Rt (some (zI (bI ((btw (x - ax) 0 (bx - ax) ∧ y - ay = (if c % 2 = 0 then 0 else yb - ay) ∨ btw (y - ay) 0 (yb - ay) ∧ x - ax = (if c % 2 = 0 then bx - ax else 0)) ∧ rAt (M 139) x y = -1)))) M := by
    intro v6 h01 h6
    rw [m_rowOf hA wA, Cb_I, q_210_74, m_rowOf hB wB, Cb_I, q_210_80, m_isFrom, Cb_I, q_210_83, tm, hay, hby]
    by_cases k : btw y ay yb
    · rw [if_neg (bI_n0.2 k)]
      by_cases e : c % 2 = 0
      · rw [if_neg (fun q => q e), m_columnOf hB wB, Cb_I, q_210_99, q_210_108, hbx]
        by_cases l : x = bx
        · rw [if_neg (fun q => q l)]
          have yes : btw (y - ay) 0 (yb - ay) ∧ x - ax = (if c % 2 = 0 then bx - ax else 0) := ⟨b2.1 k, by rw [if_pos e]; omega⟩
          rcases h01 with z | z
          · rw [if_neg (by omega)]
            exact fin _ _ True ⟨fun _ => Or.inr yes, fun _ => trivial⟩ trivial
          · rw [if_pos (by omega)]
            exact fin _ _ True ⟨fun _ => Or.inr yes, fun _ => trivial⟩ trivial
        · rw [if_pos l]
          rcases h01 with z | z
          · rw [if_neg (by omega), bI_f]
            rintro ⟨q | q, _⟩
            · have := h6.2 q
              omega
            · have := q.2
              rw [if_pos e] at this
              omega
          · rw [if_pos (by omega)]
            exact fin _ _ True ⟨fun _ => Or.inl (h6.1 z), fun _ => trivial⟩ trivial
      · rw [if_pos e, m_columnOf hA wA, Cb_I, q_210_108, hax]
        by_cases l : x = ax
        · rw [if_neg (fun q => q l)]
          have yes : btw (y - ay) 0 (yb - ay) ∧ x - ax = (if c % 2 = 0 then bx - ax else 0) := ⟨b2.1 k, by rw [if_neg e]; omega⟩
          rcases h01 with z | z
          · rw [if_neg (by omega)]
            exact fin _ _ True ⟨fun _ => Or.inr yes, fun _ => trivial⟩ trivial
          · rw [if_pos (by omega)]
            exact fin _ _ True ⟨fun _ => Or.inr yes, fun _ => trivial⟩ trivial
        · rw [if_pos l]
          rcases h01 with z | z
          · rw [if_neg (by omega), bI_f]
            rintro ⟨q | q, _⟩
            · have := h6.2 q
              omega
            · have := q.2
              rw [if_neg e] at this
              omega
          · rw [if_pos (by omega)]
            exact fin _ _ True ⟨fun _ => Or.inl (h6.1 z), fun _ => trivial⟩ trivial
    · rw [if_pos (bI_0.2 k)]
      rcases h01 with z | z
      · rw [if_neg (by omega), bI_f]
        rintro ⟨q | q, _⟩
        · have := h6.2 q
          omega
        · exact k (b2.2 q.1)
      · rw [if_pos (by omega)]
        exact fin _ _ True ⟨fun _ => Or.inl (h6.1 z), fun _ => trivial⟩ trivial
  by_cases k : btw x ax bx
  · rw [if_neg (bI_n0.2 k)]
    by_cases e : c % 2 = 0
    · rw [if_neg (fun q => q e), m_rowOf hA wA, Cb_I, q_210_48, q_210_57, hay]
      by_cases l : y = ay
      · rw [if_neg (fun q => q l)]
        exact snd 1 (Or.inr rfl) ⟨fun _ => ⟨b1.1 k, by rw [if_pos e]; omega⟩, fun _ => rfl⟩
      · rw [if_pos l]
        refine snd 0 (Or.inl rfl) ⟨fun q => by omega, fun q => ?_⟩
        have := q.2
        rw [if_pos e] at this
        omega
    · rw [if_pos e, m_rowOf hB wB, Cb_I, q_210_57, hby]
      by_cases l : y = yb
      · rw [if_neg (fun q => q l)]
        exact snd 1 (Or.inr rfl) ⟨fun _ => ⟨b1.1 k, by rw [if_neg e]; omega⟩, fun _ => rfl⟩
      · rw [if_pos l]
        refine snd 0 (Or.inl rfl) ⟨fun q => by omega, fun q => ?_⟩
        have := q.2
        rw [if_neg e] at this
        omega
  · rw [if_pos (bI_0.2 k)]
    exact snd 0 (Or.inl rfl) ⟨fun q => by omega, fun q => absurd (b1.2 q.1) k⟩
theorem m_cAt {x y : Int} (hw : WF (M 139)) (hx : -1000 < x ∧ x < 1000) (hy : -1000 < y ∧ y < 1000) : E (d + 4) 211 [zR 138, zI x, zI y, zI 0] M = Rt (some (zI (cAt (M 139) x y))) M := by
  have hW := wf_W hw
  rw [en_211, q_211_0]
  refine lpf (fun i => Q (d + 3) 211 3 [zR 138, zI x, zI y, zI 0, zI i] [] M) (has (M 139) x y) (fun v => Rt (some (zI v)) M) (M 139 121) hW.1 ?_ ?_ ?_
  · intro i h0 h1 k
    rw [q_211_3, if_neg (by omega), m_has hw ⟨h0, h1⟩ hx hy, Cb_I, q_211_23, if_pos (bI_0.2 k), zw_id (by omega)]
  · intro i h0 h1 k
    rw [q_211_3, if_neg (by omega), m_has hw ⟨h0, h1⟩ hx hy, Cb_I, q_211_23, if_neg (bI_n0.2 k), if_pos rfl]
  · rw [q_211_3, if_pos (Int.le_refl _)]
theorem m_lAt {x y : Int} (hw : WF (M 139)) (hx : -1000 < x ∧ x < 1000) (hy : -1000 < y ∧ y < 1000) : E (d + 4) 211 [zR 138, zI x, zI y, zI 1] M = Rt (some (zI (lAt (M 139) x y))) M := by
  have hW := wf_W hw
  rw [en_211, q_211_0]
  refine lpf (fun i => Q (d + 3) 211 3 [zR 138, zI x, zI y, zI 1, zI i] [] M) (fun c => has (M 139) x y c ∧ isL (M 139) c) (fun v => Rt (some (zI v)) M) (M 139 121) hW.1 ?_ ?_ ?_
  · intro i h0 h1 k
    rw [q_211_3, if_neg (by omega), m_has hw ⟨h0, h1⟩ hx hy, Cb_I, q_211_23]
    by_cases l : has (M 139) x y i
    · rw [if_neg (bI_n0.2 l), if_neg (by omega), m_l (by omega), Cb_I, q_211_37, if_pos (Int.not_le.1 (fun q => k ⟨l, q⟩)), zw_id (by omega)]
    · rw [if_pos (bI_0.2 l), zw_id (by omega)]
  · intro i h0 h1 k
    have k2 : 0 ≤ gL (M 139) i := k.2
    rw [q_211_3, if_neg (by omega), m_has hw ⟨h0, h1⟩ hx hy, Cb_I, q_211_23, if_neg (bI_n0.2 k.1), if_neg (by omega), m_l (by omega), Cb_I, q_211_37, if_neg (by omega)]
  · rw [q_211_3, if_pos (Int.le_refl _)]
theorem m_isCell (x y : Int) : E (d + 2) 208 [zI x, zI y] M = Rt (some (zI (bI ((0 ≤ x ∧ x < 24) ∧ 0 ≤ y ∧ y < 16)))) M := by
  rw [en_208, q_208_0, m_in, Cb_I, q_208_7]
  by_cases h : 0 ≤ x ∧ x ≤ 23
  · rw [if_neg (bI_n0.2 h), m_in, Cb_I, q_208_17]
    by_cases k : 0 ≤ y ∧ y ≤ 15
    · rw [if_neg (bI_n0.2 k), bI_t (by omega)]
    · rw [if_pos (bI_0.2 k), bI_f (by omega)]
  · rw [if_pos (bI_0.2 h), bI_f (by omega)]
end
