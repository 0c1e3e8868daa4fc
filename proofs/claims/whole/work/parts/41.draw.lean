/-! the class's drawing -/
section
variable {p q : Int → Prop} {n i : Int}
theorem fs_up1 (h : 0 ≤ i) (k : p i) (l : ∀ j, 0 ≤ j → j < i → ¬ p j) : fs p (i + 1) = i := fs_at (by omega) k l
theorem fs_up0 (h : 0 ≤ i) (k : ¬ p i) : fs p (i + 1) = fs p i := by
  rcases fs_sp (p := p) h with ⟨e, l⟩ | ⟨l1, l2, l3⟩
  · rw [e]
    refine fs_no fun j j0 j1 => ?_
    by_cases e : j = i
    · rw [e]; exact k
    · exact l j j0 (by omega)
  · exact fs_at (by omega) l2 l3
/-- the lowest from i on -/
noncomputable def fd (p : Int → Prop) (n i : Int) : Int := fs (fun c => i ≤ c ∧ p c) n
theorem fd_y (h : 0 ≤ i ∧ i < n) (k : p i) : fd p n i = i := fs_at h ⟨Int.le_refl _, k⟩ (fun j _ j1 z => by omega)
theorem fd_n (k : ¬ p i) : fd p n i = fd p n (i + 1) := fs_cg (fun j _ _ => ⟨fun z => ⟨by
  by_cases e : j = i
  · rw [e] at z
    exact absurd z.2 k
  · omega, z.2⟩, fun z => ⟨by omega, z.2⟩⟩)
theorem fd_0 : fd p n 0 = fs p n := fs_cg (fun j j0 _ => ⟨fun z => z.2, fun z => ⟨j0, z⟩⟩)
theorem fd_e (h : n ≤ i) : fd p n i = -1 := fs_no (fun j _ _ z => by omega)
end
section
variable {d : Nat} {M : ZM} {g : Int → Int}
/-- the cells of a row as a table of places -/
def tab (f : Int → Int) (t : Int → Int → Int) : Prop := ∀ x y, 0 ≤ x → x < 24 → 0 ≤ y → y < 16 → f (24 * y + x) = t x y
theorem tab_cg {f : Int → Int} {t t' : Int → Int → Int} (h : tab f t) (k : ∀ x y, 0 ≤ x → x < 24 → 0 ≤ y → y < 16 → t x y = t' x y) : tab f t' := fun x y x0 x1 y0 y1 => (h x y x0 x1 y0 y1).trans (k x y x0 x1 y0 y1)
theorem tab_u {f : Int → Int} {t t' : Int → Int → Int} {a b v : Int} (h : tab f t) (ha : 0 ≤ a ∧ a < 24) (hb : 0 ≤ b ∧ b < 16) (k : ∀ x y, 0 ≤ x → x < 24 → 0 ≤ y → y < 16 → t' x y = if x = a ∧ y = b then v else t x y) : tab (up1 f (24 * b + a) v) t' := by
  intro x y x0 x1 y0 y1
  rw [k x y x0 x1 y0 y1]
  by_cases e : x = a ∧ y = b
  · rw [if_pos e, e.1, e.2, up1_s]
  · rw [if_neg e, up1_n (by omega)]
    exact h x y x0 x1 y0 y1
noncomputable def rUp (g : Int → Int) (i x y : Int) : Int := fs (inR g x y) i
noncomputable def rIn (g : Int → Int) (i a b x y : Int) : Int := @ite Int (inR g x y i ∧ (y - gY g i < b ∨ y - gY g i = b ∧ x - gX g i < a)) (Classical.propDecidable _) i (rUp g i x y)
theorem x_drawRoom {i : Int} (hw : WF g) (hd : dgr M 1 g) (hi : 0 ≤ i ∧ i < g 120) (h : tab (M 133) (rUp g i)) : ∃ M', E (d + 2) 53 [zR 132, zR 1, zI i] M = Rt none M' ∧ fr1 133 M M' ∧ tab (M' 133) (rUp g (i + 1)) := by
  have hR := wf_R hw
  have hr := wf_r hw hi
  unfold wfR at hr
  have pos : ∀ {x y a b : Int}, (inR g x y i ∧ (y - gY g i < b ∨ y - gY g i = b ∧ x - gX g i < a)) → rIn g i a b x y = i := fun z => if_pos z
  have neg : ∀ {x y a b : Int}, ¬ (inR g x y i ∧ (y - gY g i < b ∨ y - gY g i = b ∧ x - gX g i < a)) → rIn g i a b x y = rUp g i x y := fun z => if_neg z
  have same : ∀ {x y a b a' b' : Int}, ((inR g x y i ∧ (y - gY g i < b ∨ y - gY g i = b ∧ x - gX g i < a)) ↔ (inR g x y i ∧ (y - gY g i < b' ∨ y - gY g i = b' ∧ x - gX g i < a'))) → rIn g i a b x y = rIn g i a' b' x y := by
    intro x y a b a' b' z
    by_cases k : inR g x y i ∧ (y - gY g i < b ∨ y - gY g i = b ∧ x - gX g i < a)
    · rw [pos k, pos (z.1 k)]
    · rw [neg k, neg (fun w => k (z.2 w))]
  rw [en_53, q_53_0]
  refine lpi (fun b (s : ZM × ZV × ZV) => Q (d + 1) 53 2 [zR 132, zR 1, zI i, zI b, s.2.1, s.2.2] [] s.1) (fun o => ∃ M', o = Rt none M' ∧ fr1 133 M M' ∧ tab (M' 133) (rUp g (i + 1))) (gH g i) (fun b s => fr1 133 M s.1 ∧ tab (s.1 133) (rIn g i 0 b)) ?_ ?_ 0 (M, zU, zU) (by omega) ⟨fr1_r, tab_cg h (fun x y _ _ _ _ => (neg (fun z => by unfold inR at z; omega)).symm)⟩
  · rintro b ⟨M1, z4, z5⟩ b0 b1 ⟨f1, t1⟩
    dsimp only at f1 t1 ⊢
    have hd1 := fr1_d f1 (by omega) hd
    refine Or.inr ?_
    rw [q_53_2, if_pos (by omega), h1h hd1 hi, if_neg (by omega)]
    refine lpi (fun a (s : ZM × ZV) => Q (d + 1) 53 15 [zR 132, zR 1, zI i, zI b, zI a, s.2] [] s.1) (fun o => ∃ s' : ZM × ZV × ZV, o = Q (d + 1) 53 2 [zR 132, zR 1, zI i, zI (b + 1), s'.2.1, s'.2.2] [] s'.1 ∧ fr1 133 M s'.1 ∧ tab (s'.1 133) (rIn g i 0 (b + 1))) (gW g i) (fun a s => fr1 133 M s.1 ∧ tab (s.1 133) (rIn g i a b)) ?_ ?_ 0 (M1, z5) (by omega) ⟨f1, t1⟩
    · rintro a ⟨M2, z⟩ a0 a1 ⟨f2, t2⟩
      dsimp only at f2 t2 ⊢
      have hd2 := fr1_d f2 (by omega) hd
      have ce : cel (gX g i + a) (gY g i + b) = 24 * (gY g i + b) + (gX g i + a) := by
        unfold cel
        rw [if_pos (by omega)]
      refine Or.inr ⟨(zwr M2 133 (24 * (gY g i + b) + (gX g i + a)) i, zI (24 * (gY g i + b) + (gX g i + a))), ?_, fr1_w f2, ?_⟩
      · rw [q_53_15, if_pos (by omega), h1w hd2 hi, if_neg (by omega), if_pos (by omega), if_pos (by omega), h1x hd2 hi, h1y hd2 hi, zw_id (x := gX g i + a) (by omega), zw_id (x := gY g i + b) (by omega), x_cellAt, Cb_I, ce, q_53_46, if_neg (by omega), if_pos (by omega), zw_id (by omega)]
      · dsimp only
        rw [zwr_u]
        refine tab_u t2 (by omega) (by omega) (fun x y _ _ _ _ => ?_)
        by_cases e : x = gX g i + a ∧ y = gY g i + b
        · rw [if_pos e]
          refine pos ?_
          unfold inR
          omega
        · rw [if_neg e]
          refine same ?_
          unfold inR
          omega
    · rintro ⟨M2, z⟩ ⟨f2, t2⟩
      dsimp only at f2 t2 ⊢
      have hd2 := fr1_d f2 (by omega) hd
      refine ⟨(M2, zI (gW g i), z), ?_, f2, tab_cg t2 (fun x y _ _ _ _ => same (by unfold inR; omega))⟩
      rw [q_53_15, if_pos (by omega), h1w hd2 hi, if_pos (Int.le_refl _), zw_id (by omega)]
  · rintro ⟨M1, z4, z5⟩ ⟨f1, t1⟩
    dsimp only at f1 t1 ⊢
    have hd1 := fr1_d f1 (by omega) hd
    refine ⟨M1, by rw [q_53_2, if_pos (by omega), h1h hd1 hi, if_pos (Int.le_refl _)], f1, tab_cg t1 (fun x y _ _ _ _ => ?_)⟩
    by_cases k : inR g x y i
    · rw [pos ⟨k, by unfold inR at k; omega⟩]
      exact (fs_up1 hi.1 k (fun j j0 j1 z => by have := inR_1 hw ⟨j0, by omega⟩ hi z k; omega)).symm
    · rw [neg (fun z => k z.1)]
      exact (fs_up0 hi.1 k).symm
def wX (g : Int → Int) (c i : Int) : Int := cX g (gA g c) + wxN (c % 2) (dX g c) (dY g c) i
def wY (g : Int → Int) (c i : Int) : Int := cY g (gA g c) + wyN (c % 2) (dX g c) (dY g c) i
theorem w_hit {x y c : Int} : (∃ i, (0 ≤ i ∧ i ≤ ab (dX g c) + ab (dY g c)) ∧ x = wX g c i ∧ y = wY g c i) ↔ onW g x y c := by
  unfold onW wX wY
  rw [← way_hit]
  constructor
  · rintro ⟨i, h, h1, h2⟩
    exact ⟨i, h, by omega, by omega⟩
  · rintro ⟨i, h, h1, h2⟩
    exact ⟨i, h, by omega, by omega⟩
theorem d_rg (hw : WF g) {c : Int} (hc : 0 ≤ c ∧ c < g 121) : (-23 < dX g c ∧ dX g c < 23) ∧ (-15 < dY g c ∧ dY g c < 15) := by
  have hab := wf_ab hw hc
  have := cX_rg hw (r := gA g c) (by omega)
  have := cX_rg hw (r := gB g c) (by omega)
  have := cY_rg hw (r := gA g c) (by omega)
  have := cY_rg hw (r := gB g c) (by omega)
  unfold dX dY
  omega
theorem onW_rg (hw : WF g) {c x y : Int} (hc : 0 ≤ c ∧ c < g 121) (h : onW g x y c) : (1 ≤ x ∧ x < 24) ∧ 1 ≤ y ∧ y < 16 := by
  have hab := wf_ab hw hc
  have := cX_rg hw (r := gA g c) (by omega)
  have := cX_rg hw (r := gB g c) (by omega)
  have := cY_rg hw (r := gA g c) (by omega)
  have := cY_rg hw (r := gB g c) (by omega)
  have := hit_b h
  unfold btw dX dY at this
  omega
theorem dst_d {c : Int} : dst g (gA g c) (gB g c) = ab (dX g c) + ab (dY g c) := by
  have e : ∀ a b : Int, ab (a - b) = ab (b - a) := fun a b => by
    have := ab_c (a - b)
    have := ab_c (b - a)
    omega
  unfold dst dX dY
  rw [e (cX g (gA g c)), e (cY g (gA g c))]
theorem x_wayCell {c i : Int} (hw : WF g) (hd : dgr M 1 g) (hc : 0 ≤ c ∧ c < g 121) (hi : 0 ≤ i ∧ i ≤ ab (dX g c) + ab (dY g c)) : E (d + 2) 55 [zR 1, zI c, zI i] M = Rt (some (zI (24 * wY g c i + wX g c i))) M := by
  have hW := wf_W hw
  have hab := wf_ab hw hc
  have hA : 0 ≤ gA g c ∧ gA g c < g 120 := by omega
  have hB : 0 ≤ gB g c ∧ gB g c < g 120 := by omega
  have a1 := cX_rg hw hA
  have a2 := cX_rg hw hB
  have a3 := cY_rg hw hA
  have a4 := cY_rg hw hB
  have dr := d_rg hw hc
  have tm : c.tmod 2 = c % 2 := Int.tmod_eq_emod_of_nonneg hc.1
  have hit := w_hit.1 ⟨i, hi, rfl, rfl⟩
  have rg := onW_rg hw hc hit
  have fin : E (d + 1) 150 [zI (wX g c i), zI (wY g c i)] M = Rt (some (zI (24 * wY g c i + wX g c i))) M := by
    rw [x_cellAt]
    unfold cel
    rw [if_pos (by omega)]
  obtain ⟨k1, k2, -, -⟩ := ac_sp (e := c % 2) hi
  have b1 := ab_c (dX g c)
  have b2 := ab_c (dY g c)
  rw [en_55, q_55_0, if_pos (by omega), h1a hd hc, x_centerColumn hw hd hA, Cb_I, q_55_10, if_pos (by omega), h1a hd hc, x_centerRow hw hd hA, Cb_I, q_55_21, if_pos (by omega), h1b hd hc, x_centerColumn hw hd hB, Cb_I, q_55_33, if_pos (by omega), h1b hd hc, x_centerRow hw hd hB, Cb_I, q_55_47, tm, ab_z (x := cY g (gB g c) - cY g (gA g c)) (by omega), zw_id (x := cX g (gB g c) - cX g (gA g c)) (by omega), zw_id (x := cY g (gB g c) - cY g (gA g c)) (by omega)]
  have eX : cX g (gB g c) - cX g (gA g c) = dX g c := rfl
  have eY : cY g (gB g c) - cY g (gA g c) = dY g c := rfl
  rw [eX, eY]
  have e1 : (if 0 ≤ dX g c then dX g c else zw (0 - dX g c)) = ab (dX g c) := by
    unfold ab
    split
    · rfl
    · rw [zw_id (by omega)]; omega
  have rest : ∀ (z7 : Int), Cb (E (d + 1) 250 [zI (dX g c)] M) (fun v h => zrun (zevl (d + 1)) 55 101 [zR 1, zI c, zI i, zI (cX g (gA g c)), zI (cY g (gA g c)), zI (dX g c), zI (dY g c), zI z7, zI (acN (c % 2) (dX g c) (dY g c) i)] (v.toList ++ [zI (cX g (gA g c))]) h) = Rt (some (zI (24 * wY g c i + wX g c i))) M := by
    intro z7
    have s1 : sg_of (dX g c) * acN (c % 2) (dX g c) (dY g c) i = wX g c i - cX g (gA g c) := by
      unfold wX wxN
      omega
    have s2 : sg_of (dY g c) * (i - acN (c % 2) (dX g c) (dY g c) i) = wY g c i - cY g (gA g c) := by
      unfold wY wyN
      omega
    rw [x_signum (by omega), Cb_I, q_55_101, x_signum (by omega), Cb_I, q_55_112, zw_id (x := i - acN (c % 2) (dX g c) (dY g c) i) (by omega), s1, s2, zw_id (x := wX g c i - cX g (gA g c)) (by omega), zw_id (x := wY g c i - cY g (gA g c)) (by omega), zw_id (by omega), zw_id (by omega), show cX g (gA g c) + (wX g c i - cX g (gA g c)) = wX g c i by omega, show cY g (gA g c) + (wY g c i - cY g (gA g c)) = wY g c i by omega, fin, Cb_I, q_55_121]
  by_cases e : c % 2 = 0
  · have ea : acN (c % 2) (dX g c) (dY g c) i = if ab (dX g c) < i then ab (dX g c) else i := if_pos e
    rw [if_neg (fun q => q e), e1, ← ea]
    exact rest 1
  · have ea : acN (c % 2) (dX g c) (dY g c) i = if 0 < i - ab (dY g c) then i - ab (dY g c) else 0 := if_neg e
    rw [if_pos e, zw_id (x := i - ab (dY g c)) (by omega), ← ea]
    exact rest 0
noncomputable def cDn (g : Int → Int) (i x y : Int) : Int := fd (has g x y) (g 121) i
noncomputable def lkv (g : Int → Int) (v : Int) : Int := if v = -1 then -1 else gL g v
noncomputable def lDn (g : Int → Int) (i x y : Int) : Int := lkv g (fd (fun c => has g x y c ∧ isL g c) (g 121) i)
/-- a corridor's way is drawn up to a place -/
def upto (g : Int → Int) (c i x y : Int) : Prop := has g x y c ∧ ∃ j, (0 ≤ j ∧ j < i) ∧ x = wX g c j ∧ y = wY g c j
noncomputable def cIn (g : Int → Int) (c i x y : Int) : Int := @ite Int (upto g c i x y) (Classical.propDecidable _) c (cDn g (c + 1) x y)
noncomputable def lIn (g : Int → Int) (c i x y : Int) : Int := @ite Int (upto g c i x y ∧ isL g c) (Classical.propDecidable _) (gL g c) (lDn g (c + 1) x y)
theorem frr_cell {lo hi b : Nat} {M M' : ZM} (h : frr lo hi M M') (k : b < lo ∨ hi < b) : M' b = M b := h b k
theorem x_drawCorridor {c : Int} (hw : WF g) (hd : dgr M 1 g) (hc : 0 ≤ c ∧ c < g 121) (h0 : tab (M 133) (rAt g)) (h1 : tab (M 134) (cDn g (c + 1))) (h2 : tab (M 135) (lDn g (c + 1))) : ∃ M', E (d + 3) 54 [zR 132, zR 1, zI c] M = Rt none M' ∧ frr 134 135 M M' ∧ tab (M' 134) (cDn g c) ∧ tab (M' 135) (lDn g c) := by
  have hW := wf_W hw
  have hl := wf_l hw hc
  have hab := wf_ab hw hc
  have hA : 0 ≤ gA g c ∧ gA g c < g 120 := by omega
  have hB : 0 ≤ gB g c ∧ gB g c < g 120 := by omega
  have dr := dst_rg hw hA hB
  have pc : ∀ {x y i : Int}, upto g c i x y → cIn g c i x y = c := fun z => if_pos z
  have nc : ∀ {x y i : Int}, ¬ upto g c i x y → cIn g c i x y = cDn g (c + 1) x y := fun z => if_neg z
  have pl : ∀ {x y i : Int}, upto g c i x y ∧ isL g c → lIn g c i x y = gL g c := fun z => if_pos z
  have nl : ∀ {x y i : Int}, ¬ (upto g c i x y ∧ isL g c) → lIn g c i x y = lDn g (c + 1) x y := fun z => if_neg z
  have u0 : ∀ {x y : Int}, ¬ upto g c 0 x y := fun ⟨_, j, j0, _⟩ => by omega
  rw [en_54, q_54_0, if_pos (by omega), if_pos (by omega), h1a hd hc, h1b hd hc, x_distance hw hd hA hB, Cb_I, q_54_16]
  refine lpi (fun i (s : ZM × ZV) => Q (d + 2) 54 20 [zR 132, zR 1, zI c, zI (dst g (gA g c) (gB g c)), zI i, s.2] [] s.1) (fun o => ∃ M', o = Rt none M' ∧ frr 134 135 M M' ∧ tab (M' 134) (cDn g c) ∧ tab (M' 135) (lDn g c)) (dst g (gA g c) (gB g c) + 1) (fun i s => frr 134 135 M s.1 ∧ tab (s.1 134) (cIn g c i) ∧ tab (s.1 135) (lIn g c i)) ?_ ?_ 0 (M, zU) (by omega) ⟨frr_r, tab_cg h1 (fun x y _ _ _ _ => (nc u0).symm), tab_cg h2 (fun x y _ _ _ _ => (nl (fun z => u0 z.1)).symm)⟩
  · rintro i ⟨M1, z⟩ i0 i1 ⟨f1, t1, t2⟩
    dsimp only at f1 t1 t2 ⊢
    have hd1 := frr_d f1 (by omega) hd
    have hi : 0 ≤ i ∧ i ≤ ab (dX g c) + ab (dY g c) := by rw [← dst_d]; omega
    have hit := w_hit.1 ⟨i, hi, rfl, rfl⟩
    have rg := onW_rg hw hc hit
    have m3 : M1 133 = M 133 := f1 133 (by omega)
    generalize hx : wX g c i = x at *
    generalize hy : wY g c i = y at *
    refine Or.inr ?_
    have step : ∀ x' y', 0 ≤ x' → x' < 24 → 0 ≤ y' → y' < 16 → (upto g c (i + 1) x' y' ↔ upto g c i x' y' ∨ (rAt g x y = -1 ∧ x' = x ∧ y' = y)) := by
      intro x' y' _ _ _ _
      constructor
      · rintro ⟨k1, j, j0, j1, j2⟩
        by_cases e : j = i
        · subst e
          have e1 : x' = x := by omega
          have e2 : y' = y := by omega
          subst e1; subst e2
          exact Or.inr ⟨k1.2, rfl, rfl⟩
        · exact Or.inl ⟨k1, j, by omega, j1, j2⟩
      · rintro (⟨k1, j, j0, j1, j2⟩ | ⟨k, e1, e2⟩)
        · exact ⟨k1, j, by omega, j1, j2⟩
        · rw [e1, e2]
          exact ⟨⟨hit, k⟩, i, by omega, hx.symm, hy.symm⟩
    rw [q_54_20, if_neg (by omega), x_wayCell hw hd1 hc hi, hx, hy, Cb_I, q_54_33, if_neg (by omega), if_pos (by omega), m3, h0 x y (by omega) (by omega) (by omega) (by omega), zw_id (x := i + 1) (by omega)]
    by_cases k : rAt g x y = -1
    · have m9 : (zwr M1 134 (24 * y + x) c) 9 c = gL g c := by rw [zwr_ne (by decide)]; exact h1l hd1 hc
      rw [if_neg (fun q => q k), if_pos (by omega), if_pos (by omega), m9]
      have tc : tab (up1 (M1 134) (24 * y + x) c) (cIn g c (i + 1)) := tab_u t1 (by omega) (by omega) (fun x' y' a1 a2 a3 a4 => by
        have s := step x' y' a1 a2 a3 a4
        by_cases e : x' = x ∧ y' = y
        · rw [if_pos e, pc (s.2 (Or.inr ⟨k, e⟩))]
        · rw [if_neg e]
          by_cases u : upto g c i x' y'
          · rw [pc u, pc (s.2 (Or.inl u))]
          · rw [nc u, nc (fun w => (s.1 w).elim u (fun w => e w.2))])
      by_cases l : gL g c = -1
      · have lno : ¬ isL g c := fun q => by unfold isL at q; omega
        rw [if_neg (fun q => q l), if_pos (by omega), if_pos (by omega)]
        refine ⟨(zwr (zwr M1 134 (24 * y + x) c) 135 (24 * y + x) (zwr M1 134 (24 * y + x) c 135 (24 * y + x)), zI (24 * y + x)), rfl, frr_w (frr_w f1 (by omega) (by omega)) (by omega) (by omega), ?_, ?_⟩
        · dsimp only
          rw [zwr_n (by decide), zwr_u]
          exact tc
        · dsimp only
          rw [zwr_u, zwr_ne (by decide), zwr_n (by decide)]
          refine tab_u t2 (by omega) (by omega) (fun x' y' a1 a2 a3 a4 => ?_)
          rw [nl (fun w => lno w.2)]
          by_cases e : x' = x ∧ y' = y
          · rw [if_pos e, e.1, e.2, t2 x y (by omega) (by omega) (by omega) (by omega), nl (fun w => lno w.2)]
          · rw [if_neg e, nl (fun w => lno w.2)]
      · have lyes : isL g c := by unfold isL; omega
        rw [if_pos l, if_pos (by omega), if_pos (by omega)]
        refine ⟨(zwr (zwr M1 134 (24 * y + x) c) 135 (24 * y + x) (gL g c), zI (24 * y + x)), rfl, frr_w (frr_w f1 (by omega) (by omega)) (by omega) (by omega), ?_, ?_⟩
        · dsimp only
          rw [zwr_n (by decide), zwr_u]
          exact tc
        · dsimp only
          rw [zwr_u, zwr_n (by decide)]
          refine tab_u t2 (by omega) (by omega) (fun x' y' a1 a2 a3 a4 => ?_)
          have s := step x' y' a1 a2 a3 a4
          by_cases e : x' = x ∧ y' = y
          · rw [if_pos e, pl ⟨s.2 (Or.inr ⟨k, e⟩), lyes⟩]
          · rw [if_neg e]
            by_cases u : upto g c i x' y'
            · rw [pl ⟨u, lyes⟩, pl ⟨s.2 (Or.inl u), lyes⟩]
            · rw [nl (fun w => u w.1), nl (fun w => (s.1 w.1).elim u (fun w => e w.2))]
    · rw [if_pos k]
      refine ⟨(M1, zI (24 * y + x)), rfl, f1, tab_cg t1 (fun x' y' a1 a2 a3 a4 => ?_), tab_cg t2 (fun x' y' a1 a2 a3 a4 => ?_)⟩
      · have s := step x' y' a1 a2 a3 a4
        by_cases u : upto g c i x' y'
        · rw [pc u, pc (s.2 (Or.inl u))]
        · rw [nc u, nc (fun w => (s.1 w).elim u (fun w => k w.1))]
      · have s := step x' y' a1 a2 a3 a4
        by_cases u : upto g c i x' y' ∧ isL g c
        · rw [pl u, pl ⟨s.2 (Or.inl u.1), u.2⟩]
        · rw [nl u, nl (fun w => u ⟨(s.1 w.1).elim id (fun z => absurd z.1 k), w.2⟩)]
  · rintro ⟨M1, z⟩ ⟨f1, t1, t2⟩
    dsimp only at f1 t1 t2 ⊢
    have all : ∀ x y, upto g c (dst g (gA g c) (gB g c) + 1) x y ↔ has g x y c := by
      intro x y
      refine ⟨fun z => z.1, fun z => ?_⟩
      obtain ⟨j, j0, j1⟩ := w_hit.2 z.1
      rw [← dst_d] at j0
      exact ⟨z, j, by omega, j1⟩
    refine ⟨M1, by rw [q_54_20, if_pos (by omega)], f1, tab_cg t1 (fun x y _ _ _ _ => ?_), tab_cg t2 (fun x y _ _ _ _ => ?_)⟩
    · by_cases u : has g x y c
      · rw [pc ((all x y).2 u)]
        exact (fd_y hc u).symm
      · rw [nc (fun w => u ((all x y).1 w))]
        exact (fd_n u).symm
    · unfold lDn
      by_cases u : has g x y c ∧ isL g c
      · rw [pl ⟨(all x y).2 u.1, u.2⟩, fd_y hc u]
        unfold lkv
        rw [if_neg (by omega)]
      · rw [nl (fun w => u ⟨(all x y).1 w.1, w.2⟩), fd_n u]
        rfl
/-- what a drawing leaves -/
def drw (M : ZM) (g : Int → Int) : Prop := tab (M 133) (rAt g) ∧ tab (M 134) (cAt g) ∧ tab (M 135) (fun x y => lkv g (lAt g x y))
theorem tab_agr {f : Int → Int} {v : Int} (h : agr 384 f (fun _ => v)) : tab f (fun _ _ => v) := fun x y x0 x1 y0 y1 => h _ (by omega) (by omega)
theorem x_draw (hw : WF g) (hd : dgr M 1 g) : ∃ M', E (d + 4) 52 [zR 132, zR 1] M = Rt none M' ∧ frr 133 135 M M' ∧ drw M' g := by
  have hR := wf_R hw
  have hW := wf_W hw
  obtain ⟨M1, e1, f1, a1⟩ := x_fill (d := d + 2) (M := M) (r := 133) (w := 384) rfl rfl (by omega) (-1)
  obtain ⟨M2, e2, f2, a2⟩ := x_fill (d := d + 2) (M := M1) (r := 134) (w := 384) rfl rfl (by omega) (-1)
  obtain ⟨M3, e3, f3, a3⟩ := x_fill (d := d + 2) (M := M2) (r := 135) (w := 384) rfl rfl (by omega) (-1)
  have F1 : frr 133 135 M M1 := frr_1 f1 (by omega) (by omega)
  have F2 : frr 133 135 M M2 := frr_t F1 (frr_1 f2 (by omega) (by omega))
  have F3 : frr 133 135 M M3 := frr_t F2 (frr_1 f3 (by omega) (by omega))
  rw [en_52, q_52_0, e1, Cb_V, q_52_8, e2, Cb_V, q_52_16, e3, Cb_V, q_52_24]
  refine lpi (fun i (M4 : ZM) => Q (d + 3) 52 26 [zR 132, zR 1, zI i] [] M4) (fun o => ∃ M', o = Rt none M' ∧ frr 133 135 M M' ∧ drw M' g) (g 120) (fun i M4 => fr1 133 M3 M4 ∧ tab (M4 133) (rUp g i)) ?_ ?_ 0 M3 (by omega) ⟨fr1_r, ?_⟩
  · rintro i M4 i0 i1 ⟨f4, t4⟩
    have hd4 := frr_d (frr_t F3 (frr_1 f4 (by omega) (by omega))) (by omega) hd
    obtain ⟨M5, e5, f5, t5⟩ := x_drawRoom (d := d + 1) hw hd4 ⟨i0, i1⟩ t4
    refine Or.inr ⟨M5, ?_, fr1_t f4 f5, t5⟩
    rw [q_52_26, h1R hd4, if_neg (by omega), e5, Cb_V, q_52_40, zw_id (by omega)]
  · rintro M4 ⟨f4, t4⟩
    have F4 : frr 133 135 M M4 := frr_t F3 (frr_1 f4 (by omega) (by omega))
    have hd4 := frr_d F4 (by omega) hd
    rw [q_52_26, h1R hd4, if_pos (Int.le_refl _), h1W hd4, zw_id (by omega)]
    have c4 : tab (M4 134) (cDn g (g 121)) := by
      rw [f4 134 (by decide), f3 134 (by decide)]
      exact tab_cg (tab_agr a2) (fun x y _ _ _ _ => (fd_e (Int.le_refl _)).symm)
    have l4 : tab (M4 135) (lDn g (g 121)) := by
      rw [f4 135 (by decide)]
      refine tab_cg (tab_agr a3) (fun x y _ _ _ _ => ?_)
      unfold lDn
      rw [fd_e (Int.le_refl _)]
      rfl
    refine lpi (fun i (M5 : ZM) => Q (d + 3) 52 53 [zR 132, zR 1, zI (g 121 - 1 - i)] [] M5) (fun o => ∃ M', o = Rt none M' ∧ frr 133 135 M M' ∧ drw M' g) (g 121) (fun i M5 => frr 134 135 M4 M5 ∧ tab (M5 134) (cDn g (g 121 - i)) ∧ tab (M5 135) (lDn g (g 121 - i))) ?_ ?_ 0 M4 (by omega) ⟨frr_r, by rw [Int.sub_zero]; exact c4, by rw [Int.sub_zero]; exact l4⟩ |> fun z => ?_
    · rw [Int.sub_zero] at z
      exact z
    · rintro i M5 i0 i1 ⟨f5, c5, l5⟩
      have hd5 := frr_d (frr_t F4 (frr_v f5 (by omega) (by omega))) (by omega) hd
      obtain ⟨M6, e6, f6, c6, l6⟩ := x_drawCorridor (d := d) (c := g 121 - 1 - i) hw hd5 (by omega) (by rw [f5 133 (by omega)]; exact t4) (by rw [show g 121 - 1 - i + 1 = g 121 - i by omega]; exact c5) (by rw [show g 121 - 1 - i + 1 = g 121 - i by omega]; exact l5)
      refine Or.inr ⟨M6, ?_, frr_t f5 f6, by rw [show g 121 - (i + 1) = g 121 - 1 - i by omega]; exact c6, by rw [show g 121 - (i + 1) = g 121 - 1 - i by omega]; exact l6⟩
      rw [q_52_53, if_neg (by omega), e6, Cb_V, q_52_63, zw_id (by omega), show g 121 - 1 - i + -1 = g 121 - 1 - (i + 1) by omega]
    · rintro M5 ⟨f5, c5, l5⟩
      rw [Int.sub_self] at c5 l5
      refine ⟨M5, by rw [q_52_53, if_pos (by omega)], frr_t F4 (frr_v f5 (by omega) (by omega)), ?_, tab_cg c5 (fun x y _ _ _ _ => fd_0), tab_cg l5 (fun x y _ _ _ _ => ?_)⟩
      · rw [f5 133 (by omega)]
        exact t4
      · unfold lDn
        rw [fd_0]
        rfl
  · rw [f3 133 (by decide), f2 133 (by decide)]
    exact tab_cg (tab_agr a1) (fun x y _ _ _ _ => rfl)
end
