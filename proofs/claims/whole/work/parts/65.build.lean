/-! build -/
section
variable {d : Nat} {M P : ZM} {g : Int → Int}
theorem kpr_t {g g' g'' : Int → Int} (h : kpr g g') (k : kpr g' g'') : kpr g g'' := ⟨k.1.trans h.1, fun r r0 r1 => by
  obtain ⟨a1, a2, a3, a4⟩ := h.2 r r0 r1
  obtain ⟨b1, b2, b3, b4⟩ := k.2 r r0 (by rw [h.1]; exact r1)
  exact ⟨b1.trans a1, b2.trans a2, b3.trans a3, b4.trans a4⟩⟩
/-- what the joining reads -/
def bjx (M P : ZM) : Prop := M 109 10 = P 0 2 ∧ M 109 8 ≤ 23 ∧ ∀ j, 0 ≤ j → j < P 0 2 → rxc M P j
def bjm (M P : ZM) : Prop := M 138 10 = P 0 2 ∧ ∀ j, 0 ≤ j → j < P 0 2 → M 144 (3 * j) = P 5 j ∧ M 144 (3 * j + 1) = P 6 j ∧ M 144 (3 * j + 2) = P 7 j
theorem bjoins (hw : WF g) (hc : P 0 2 ≤ 12) (cu : ∀ j, 0 ≤ j → j < P 0 2 → pnd P j 0 (g 120)) (c : Nat) : (c : Int) ≤ P 0 2 → ∃ g', WF g' ∧ kpr g g' ∧ (∀ d M v2 v3, bjx M P → dgr M 1 g → ∃ M', Q (d + 9) 1 72 [zR 109, zR 1, zI v2, zI v3, zI 0] [] M = Q (d + 9) 1 72 [zR 109, zR 1, zI v2, zI v3, zI c] [] M' ∧ frr 1 9 M M' ∧ dgr M' 1 g') ∧ ∀ d M v1 v2 v3 z5 z6 z7 z8 z9, bjm M P → M 139 = g → ∃ M', Q (d + 9) 185 239 [zR 138, zI v1, zI v2, zI v3, zI 0, z5, z6, z7, z8, z9] [] M = Q (d + 9) 185 239 [zR 138, zI v1, zI v2, zI v3, zI c, z5, z6, z7, z8, z9] [] M' ∧ fr1 139 M M' ∧ M' 139 = g' := by
  induction c with
  | zero => exact fun _ => ⟨g, hw, ⟨rfl, fun _ _ _ => ⟨rfl, rfl, rfl, rfl⟩⟩, fun d M v2 v3 _ hd => ⟨M, rfl, frr_r, hd⟩, fun d M v1 v2 v3 z5 z6 z7 z8 z9 _ hg => ⟨M, rfl, fr1_r, hg⟩⟩
  | succ c ih =>
    intro hk
    have e : ((c + 1 : Nat) : Int) = (c : Int) + 1 := rfl
    rw [e] at hk ⊢
    obtain ⟨g1, w1, k1, X1, M1⟩ := ih (by omega)
    have cj := cu c (by omega) (by omega)
    unfold pnd at cj
    have h120 := k1.1
    obtain ⟨v, g2, w2, -, k2, X2, M2⟩ := e_corq w1 (jnB g1 (P 5 c) (P 6 c) (P 7 c) (P 6 c - P 5 c)).1 (jnB g1 (P 5 c) (P 6 c) (P 7 c) (P 6 c - P 5 c)).2
    refine ⟨g2, w2, kpr_t k1 k2, fun d M v2 v3 hx hd => ?_, fun d M v1 v2 v3 z5 z6 z7 z8 z9 hm hg => ?_⟩
    · obtain ⟨Ma, ea, fa, da⟩ := X1 d M v2 v3 hx hd
      obtain ⟨Mb, eb, fb, db⟩ := X2 d Ma da
      obtain ⟨x1, x2, x3⟩ := hx
      have x4 := x3 c (by omega) (by omega)
      unfold rxc at x4
      have a4 := fa 114 (by omega)
      have a5 := fa 115 (by omega)
      have a7 := fa 117 (by omega)
      have a9 := fa 109 (by omega)
      obtain ⟨z, y, w, ej⟩ := x_join (d := d + 5) (M := Ma) (f := M 117 c) (fr := P 5 c) (mid := P 6 c) (to := P 7 c) w1 da (by omega) (by rw [a4]; exact x4.2.1) (by rw [a5]; exact x4.2.2.1) (by rw [a4]; exact x4.2.2.2.1) (by rw [a5]; exact x4.2.2.2.2) (by omega)
      refine ⟨Mb, ?_, frr_t fa fb, db⟩
      rw [ea, q_1_72, a9, if_neg (by omega), if_pos (by omega), if_pos (by omega), a7, zw_id (x := M 117 c + 1) (by omega), ej, eb, Cb_I, q_9_99, Cb_V, q_1_102, zw_id (by omega)]
    · obtain ⟨Ma, ea, fa, da⟩ := M1 d M v1 v2 v3 z5 z6 z7 z8 z9 hm hg
      obtain ⟨Mb, eb, fb, db⟩ := M2 d Ma da
      obtain ⟨x1, x3⟩ := hm
      obtain ⟨l1, l2, l3⟩ := x3 c (by omega) (by omega)
      have a4 := fa 144 (by decide)
      have a8 := fa 138 (by decide)
      obtain ⟨z, y, ej⟩ := m_join (d := d + 5) (M := Ma) (fr := P 5 c) (mid := P 6 c) (to := P 7 c) (by rw [da]; exact w1) (by rw [da]; omega)
      rw [da] at ej
      have z0 : zw (3 * (c : Int)) = 3 * (c : Int) := zw_id (by omega)
      have z1 : zw (3 * (c : Int) + 1) = 3 * (c : Int) + 1 := zw_id (by omega)
      have z2 : zw (3 * (c : Int) + 2) = 3 * (c : Int) + 2 := zw_id (by omega)
      refine ⟨Mb, ?_, fr1_t fa fb, db⟩
      rw [ea, q_185_239, a8, if_neg (by omega), z0, z1, z2, if_pos (by omega), if_pos (by omega), if_pos (by omega), a4, l1, l2, l3, ej, eb, Cb_I, q_184_71, Cb_V, q_185_283, zw_id (by omega)]
/-- a dungeon without rooms, the curve kept -/
def gClr (g : Int → Int) : Int → Int := fun j => if 0 ≤ j ∧ j < 123 then 0 else g j
theorem gClr_WF (hw : WF g) : WF (gClr g) ∧ gClr g 120 = 0 ∧ gClr g 121 = 0 ∧ gClr g 122 = 0 ∧ gClr g 123 = g 123 := by
  have a : gClr g 120 = 0 := if_pos (by decide)
  have b : gClr g 121 = 0 := if_pos (by decide)
  have c : gClr g 122 = 0 := if_pos (by decide)
  have e : gClr g 123 = g 123 := if_neg (by decide)
  have hU := wf_U hw
  refine ⟨⟨?_, fun r r0 r1 => absurd r1 (by omega), fun r s r0 r1 => absurd r1 (by omega), fun c c0 c1 => absurd c1 (by omega), fun c f c0 c1 => absurd c1 (by omega)⟩, a, b, c, e⟩
  unfold wfN
  rw [a, b, c, e]
  omega
theorem x_clear (hw : WF g) (hd : dgr M 1 g) : ∃ M', E (d + 1) 14 [zR 1] M = Rt none M' ∧ fr1 1 M M' ∧ dgr M' 1 (gClr g) := by
  obtain ⟨-, a, b, c, e⟩ := gClr_WF hw
  refine ⟨zwr (zwr (zwr M 1 8 0) 1 9 0) 1 10 0, by rw [en_14, q_14_0], fr1_w (fr1_w (fr1_w fr1_r)), ⟨?_, ?_, ?_, ?_⟩, fun r r0 r1 => absurd r1 (by omega), fun c c0 c1 => absurd c1 (by omega)⟩
  · rw [zwr_nj (by decide), zwr_nj (by decide), zwr_at, a]
  · rw [zwr_nj (by decide), zwr_at, b]
  · rw [zwr_at, c]
  · rw [zwr_nj (by decide), zwr_nj (by decide), zwr_nj (by decide), e]
    exact h1U hd
theorem m_clear {v1 v2 : Int} (hg : M 139 = g) : ∃ M', Q d 185 16 [zR 138, zI v1, zI v2, zU, zU, zU, zU, zU, zU, zU] [] M = Cb (E d 182 [zR 138, zI 0, zI 0, zI 24, zI 16, zI v2] M') (fun v h => zrun (zevl d) 185 82 [zR 138, zI v1, zI v2, zI (g 123), zI 124, zU, zU, zU, zU, zU] (v.toList ++ []) h) ∧ (∀ b, b ≠ 138 → b ≠ 139 → M' b = M b) ∧ (∀ f, f ≠ 6 → f ≠ 8 → f ≠ 10 → M' 138 f = M 138 f) ∧ (M' 138 6 = v1 ∧ M' 138 8 = 0 ∧ M' 138 10 = 0) ∧ M' 139 = gClr g := by
  rw [q_185_16, hg]
  refine lpi (fun i M' => Q d 185 27 [zR 138, zI v1, zI v2, zI (g 123), zI i, zU, zU, zU, zU, zU] [] M') (fun o => ∃ M', o = Cb (E d 182 [zR 138, zI 0, zI 0, zI 24, zI 16, zI v2] M') (fun v h => zrun (zevl d) 185 82 [zR 138, zI v1, zI v2, zI (g 123), zI 124, zU, zU, zU, zU, zU] (v.toList ++ []) h) ∧ (∀ b, b ≠ 138 → b ≠ 139 → M' b = M b) ∧ (∀ f, f ≠ 6 → f ≠ 8 → f ≠ 10 → M' 138 f = M 138 f) ∧ (M' 138 6 = v1 ∧ M' 138 8 = 0 ∧ M' 138 10 = 0) ∧ M' 139 = gClr g) 124 (fun i M' => fr1 139 M M' ∧ ∀ j, M' 139 j = if 0 ≤ j ∧ j < i then 0 else g j) ?_ ?_ 0 M (by decide) ⟨fr1_r, fun j => by rw [if_neg (by omega), hg]⟩
  · rintro i M' i0 i1 ⟨f, a⟩
    refine Or.inr ⟨zwr M' 139 i 0, ?_, fr1_w f, fun j => ?_⟩
    · rw [q_185_27, if_neg (by omega), if_pos ⟨i0, i1⟩, zw_id (by omega)]
    · by_cases e : j = i
      · rw [e, zwr_at, if_pos (by omega)]
      · rw [zwr_nj e, a]
        by_cases k : 0 ≤ j ∧ j < i
        · rw [if_pos k, if_pos (by omega)]
        · rw [if_neg k, if_neg (by omega)]
  · rintro M' ⟨f, a⟩
    refine ⟨zwr (zwr (zwr (zwr M' 139 123 (g 123)) 138 6 v1) 138 8 0) 138 10 0, ?_, fun b h8 h9 => ?_, fun t t6 t8 t10 => ?_, ⟨?_, ?_, ?_⟩, funext fun j => ?_⟩
    · rw [q_185_27, if_pos (by decide)]
    · rw [zwr_n h8, zwr_n h8, zwr_n h8, zwr_n h9, f b h9]
    · rw [zwr_nj t10, zwr_nj t8, zwr_nj t6, zwr_ne (by decide), f 138 (by decide)]
    · rw [zwr_nj (by decide), zwr_nj (by decide), zwr_at]
    · rw [zwr_nj (by decide), zwr_at]
    · rw [zwr_at]
    · rw [zwr_ne (by decide), zwr_ne (by decide), zwr_ne (by decide)]
      unfold gClr
      by_cases e : j = 123
      · rw [e, zwr_at, if_neg (by decide)]
      · rw [zwr_nj e, a]
        by_cases k : 0 ≤ j ∧ j < 123
        · rw [if_pos k, if_pos (by omega)]
        · rw [if_neg k, if_neg (by omega)]
/-- the whole building of both: one new row -/
theorem e_build (hw : WF g) (seed : Int) (k : Nat) (hk : k ≤ 5) : ∃ g', WF g' ∧ (∀ d M, dgr M 1 g → ∃ M', E (d + 11) 1 [zR 109, zR 1, zI seed, zI k] M = Rt none M' ∧ fxs M M' ∧ dgr M' 1 g') ∧ ∀ d M, M 139 = g → ∃ M' v1 v2 v3 v4 z5 z6 z7 z8 z9, Q (d + 10) 185 16 [zR 138, zI seed, zI k, zU, zU, zU, zU, zU, zU, zU] [] M = Cb (E (d + 10) 163 [zR 138] M') (fun v h => zrun (zevl (d + 10)) 185 293 [zR 138, zI v1, zI v2, zI v3, zI v4, z5, z6, z7, z8, z9] (v.toList ++ []) h) ∧ fms M M' ∧ M' 142 = M 142 ∧ M' 139 = g' := by
  obtain ⟨w0, n0, -, -, -⟩ := gClr_WF hw
  generalize hP : zwr (fun _ _ => 0) 0 0 seed = P
  have p0 : P 0 0 = seed := by rw [← hP, zwr_at]
  have p1 : P 0 1 = 0 := by rw [← hP]; exact zwr_nj (by decide)
  have p2 : P 0 2 = 0 := by rw [← hP]; exact zwr_nj (by decide)
  have cp0 : cp 24 16 = 12 := by decide
  have sp := pl_sp k 0 0 24 16 P (by decide) (by decide)
  obtain ⟨s1, s2, -, -, s5, s6, s7⟩ := sp
  rw [p1] at s1 s2 s5 s6 s7
  rw [p2] at s2 s7
  have XP : ∀ d M, rx M P → M 109 8 = 1 → xpd M 0 0 0 24 16 → ∃ M', E (d + k + 4) 4 [zR 109, zI 0, zI k] M = Rt none M' ∧ xpc M M' P (pl k 0 0 24 16 P) 0 := fun d M r e8 hx => x_part (d := d) k 0 0 24 16 0 M P hk r (by omega) hx (fun j j0 j1 => by omega) (by decide) (by decide) (by decide) (by decide) (by omega) (by omega) (by omega)
  have MP : ∀ d M, rm M P → ∃ M', E (d + k + 2) 182 [zR 138, zI 0, zI 0, zI 24, zI 16, zI k] M = Rt none M' ∧ rm M' (pl k 0 0 24 16 P) ∧ frp M M' := fun d M r => m_parts (d := d) k 0 0 24 16 M P hk r (by decide) (by decide) (by decide) (by decide) (by omega) (by omega)
  generalize pl k 0 0 24 16 P = P2 at *
  have go : pgo P2 (P2 0 1) := ⟨by omega, fun i i0 i1 => ⟨s5 i i0 i1, fun j j0 j1 => s6 j i j0 j1 i1⟩⟩
  have km := rmI_K (g := gClr g) (i := P2 0 1) go w0 n0 (by omega) (Int.le_refl _)
  obtain ⟨k1, k2, k3⟩ := km
  have RX : ∀ d M v2 v3, rx M P2 → M 109 8 ≤ 23 → dgr M 1 (gClr g) → ∃ M', Q (d + 9) 1 42 [zR 109, zR 1, zI v2, zI v3, zI 0] [] M = Q (d + 9) 1 72 [zR 109, zR 1, zI v2, zI v3, zI 0] [] M' ∧ (∀ f, f ≠ 11 → M' 109 f = M 109 f) ∧ (∀ b, b < 1 ∨ 9 < b → b ≠ 109 → M' b = M b) ∧ dgr M' 1 (rmI P2 (gClr g) (P2 0 1)).2 := fun d M v2 v3 r h8 hd => x_rooms (d := d) go rfl r h8 w0 n0 hd
  have RM : ∀ d M v1 v2 v3 z5 z6 z7 z8 z9, rm M P2 → M 139 = gClr g → ∃ M' y5 y6 y7 y8 y9, Q (d + 8) 185 85 [zR 138, zI v1, zI v2, zI v3, zI 0, z5, z6, z7, z8, z9] [] M = Q (d + 8) 185 239 [zR 138, zI v1, zI v2, zI v3, zI 0, y5, y6, y7, y8, y9] [] M' ∧ (∀ f, f ≠ 6 → M' 138 f = M 138 f) ∧ (∀ b, b ≠ 138 → b ≠ 139 → M' b = M b) ∧ M' 139 = (rmI P2 (gClr g) (P2 0 1)).2 := fun d M v1 v2 v3 z5 z6 z7 z8 z9 r hg => m_rooms (d := d) go rfl r w0 n0 hg
  generalize (rmI P2 (gClr g) (P2 0 1)).2 = g1 at *
  obtain ⟨g2, w2, kp, JX, JM⟩ := bjoins (P := P2) k1 (by omega) (fun j j0 j1 => by rw [k2]; exact s7 j j0 j1) (P2 0 2).toNat (by omega)
  rw [Int.toNat_of_nonneg (by omega)] at JX JM
  obtain ⟨t, ht⟩ : ∃ t, k + t = 5 := ⟨5 - k, by omega⟩
  refine ⟨g2, w2, fun d M hd => ?_, fun d M hg => ?_⟩
  · generalize hM0 : zwr (zwr (zwr (zwr M 109 11 seed) 109 8 0) 109 9 0) 109 10 0 = M0
    have a0 : M0 109 8 = 0 ∧ M0 109 9 = 0 ∧ M0 109 10 = 0 ∧ M0 109 11 = seed := by
      rw [← hM0]
      refine ⟨?_, ?_, ?_, ?_⟩
      · rw [zwr_nj (by decide), zwr_nj (by decide), zwr_at]
      · rw [zwr_nj (by decide), zwr_at]
      · rw [zwr_at]
      · rw [zwr_nj (by decide), zwr_nj (by decide), zwr_nj (by decide), zwr_at]
    have f0 : fr1 109 M M0 := by rw [← hM0]; exact fr1_w (fr1_w (fr1_w (fr1_w fr1_r)))
    obtain ⟨M1, e1, f1, d1⟩ := x_clear (d := d + 9) (M := M0) hw (fr1_d f0 (by decide) hd)
    have b9 : M1 109 = M0 109 := f1 109 (by decide)
    obtain ⟨c1, c2, c3, c4, c5⟩ := xad_0 (M := M1) (x := 0) (y := 0) (w := 24) (h := 16)
    have e2 := x_add (d := d + 9) (M := M1) (x := 0) (y := 0) (w := 24) (h := 16) (by rw [b9]; omega)
    rw [b9, a0.1] at e2 c1 c5
    generalize xad M1 0 0 24 16 = M2 at *
    obtain ⟨M3, e3, x1, x2, x3, -⟩ := XP (d + 1 + t) M2 ⟨⟨by rw [c2 11 (by decide), b9, a0.2.2.2, p0], by rw [c2 9 (by decide), b9, a0.2.1, p1], by rw [c2 10 (by decide), b9, a0.2.2.1, p2]⟩, fun i i0 i1 => by omega, fun j j0 j1 => by omega⟩ (by rw [c1]; rfl) c5
    rw [show d + 1 + t + k + 4 = d + 10 by omega] at e3
    have d3 : dgr M3 1 (gClr g) := dgr_cg (fun b b0 b1 => (x1 b (by omega)).trans (c3 b (by omega))) d1
    obtain ⟨M4, e4, r1, r2, r3⟩ := RX (d + 1) M3 seed k x2 (by omega) d3
    obtain ⟨M5, e5, q1, q2⟩ := JX (d + 1) M4 seed k ⟨by rw [r1 10 (by decide), x2.1.2.2], by rw [r1 8 (by decide)]; omega, fun j j0 j1 => by
      have := x2.2.2 j j0 j1
      unfold rxc at this ⊢
      rw [r2 114 (by omega) (by decide), r2 115 (by omega) (by decide), r2 117 (by omega) (by decide), r1 8 (by decide)]
      exact this⟩ r3
    refine ⟨M5, ?_, fun b hb => ?_, q2⟩
    · rw [en_1, q_1_0, hM0, e1, Cb_V, q_1_24, e2, Cb_I, q_1_35, e3, Cb_V, q_1_39, e4, e5, q_1_72, q1 109 (by omega), r1 10 (by decide), if_pos (by rw [x2.1.2.2]; exact Int.le_refl _)]
    · rw [q1 b (by omega), r2 b (by omega) (by omega), x1 b (by omega), c3 b (by omega), f1 b (by omega), f0 b (by omega)]
  · obtain ⟨M1, e1, f1, f2, a1, g1'⟩ := m_clear (d := d + 10) (M := M) (v1 := seed) (v2 := k) hg
    obtain ⟨M2, e2, r2, f3⟩ := MP (d + 3 + t) M1 ⟨⟨by rw [a1.1, p0], by rw [a1.2.1, p1], by rw [a1.2.2, p2]⟩, fun i i0 i1 => by omega, fun j j0 j1 => by omega⟩
    rw [show d + 3 + t + k + 2 = d + 10 by omega] at e2
    obtain ⟨M3, y5, y6, y7, y8, y9, e3, h1, h2, h3⟩ := RM (d + 2) M2 seed k (g 123) zU zU zU zU zU r2 (by rw [f3.1 139 (by decide) (by decide) (by decide)]; exact g1')
    obtain ⟨M4, e4, q1, q2⟩ := JM (d + 1) M3 seed k (g 123) y5 y6 y7 y8 y9 ⟨by rw [h1 10 (by decide), r2.1.2.2], by rw [h2 144 (by decide) (by decide)]; exact r2.2.2⟩ h3
    have al : ∀ b, b ≠ 138 → b ≠ 139 → b ≠ 143 → b ≠ 144 → M4 b = M b := fun b h8 h9 h3' h4 => by rw [q1 b h9, h2 b h8 h9, f3.1 b h8 h3' h4, f1 b h8 h9]
    refine ⟨M4, seed, k, g 123, P2 0 2, y5, y6, y7, y8, y9, ?_, ⟨fun b hb => al b (by omega) (by omega) (by omega) (by omega), fun f hf => ?_⟩, al 142 (by decide) (by decide) (by decide) (by decide), q2⟩
    · rw [e1, e2, Cb_V, q_185_82, e3, e4, q_185_239, q1 138 (by decide), h1 10 (by decide), if_pos (by rw [r2.1.2.2]; exact Int.le_refl _)]
    · unfold prs at hf
      rw [q1 138 (by decide), h1 f (by omega), f3.2 f (by omega) (by omega) (by omega), f2 f (by omega) (by omega) (by omega)]
theorem o_build {S : Int → Int} {seed lev : Int} (hr : RL S M) : uok (d + 12) 111 185 [zI seed, zI lev] S M := by
  have h' := hr
  obtain ⟨h1, h2, h3, h4, h5, h6⟩ := hr
  have sl := slo_rg (M 19 1)
  by_cases hl : 0 ≤ lev ∧ lev ≤ 5
  · obtain ⟨k, rfl⟩ := Int.eq_ofNat_of_zero_le hl.1
    obtain ⟨g', w', X, Y⟩ := e_build h2 seed k (by omega)
    obtain ⟨Ma, ea, fa, da⟩ := x_prepare (d := d + 8) h4.1 h2 h3
    have da1 : dgr Ma 1 (M 139) := dgr_cg (fun b b0 b1 => fa b (by omega)) h3
    have a39 : Ma 139 = M 139 := fa 139 (by omega)
    obtain ⟨Mb, eb, fb, db⟩ := X d Ma da1
    have b19 : Mb 19 = M 19 := (fb 19 (by omega)).trans (fa 19 (by omega))
    have hb1 : 0 ≤ Mb 19 1 ∧ Mb 19 1 < 7 := by rw [b19]; exact h4.1
    have hb2 : 0 ≤ Mb 19 2 ∧ Mb 19 2 ≤ 6 := by rw [b19, h4.2.2.1]; exact h4.2.1
    have c39 : cmx Mb 139 = M 139 := ((cmx_n (by decide)).trans (fb 139 (by omega))).trans a39
    have r' := wf_R w'
    obtain ⟨Md, ed, fd, ad⟩ := m_remembers (d := d + 10) (M := cmx Mb)
    obtain ⟨Me, u1, u2, u3, u4, z5, z6, z7, z8, z9, ee, fe, ae, ge⟩ := Y (d + 1) Md ((fd 139 (by decide)).trans c39)
    have e2 : Me 138 2 = M 138 2 := by rw [fe.2 2 (by unfold prs; omega), fd 138 (by decide), cmx_n (by decide), fb 138 (by omega), fa 138 (by omega)]
    obtain ⟨Mf, ef, ff, hf⟩ := m_changes (d := d + 10) (M := Me) (by rw [e2]; exact h4.2.1)
    refine ⟨zI (g' 120), cmx Mb, Mf, ?_, ?_, ?_⟩
    · rw [en_111, q_111_0, if_neg (by omega), if_pos hl.2, ea, Cb_V, q_111_23, eb, Cb_V, q_111_36, h1R db, x_settled hb1 hb2, Cb_I, q_111_47, if_neg (by omega)]
    · rw [en_185, q_185_0, m_in, Cb_I, q_185_6, if_pos (bI_n0.2 hl), ed, Cb_V, ee, ef, Cb_V, q_185_293, ff.1 139 (by decide) (by decide), ge]
    · have m42 : ∀ i, 0 ≤ i → i < 124 → Me 142 i = M 139 i := fun i i0 i1 => by rw [ae, ad i i0 i1, c39]
      exact RL_chg (Md := Me) h' fa da fb (fms_t (fms_1 fd (by omega)) fe) ff ⟨hf.1, fun i i0 i1 => ⟨(hf.2 i i0 i1).1, (hf.2 i i0 i1).2.trans (m42 i i0 i1)⟩⟩ (by rw [ge]; exact w') (by rw [ge]; exact db)
  · refine ⟨zI (-102), M, M, ?_, ?_, h'⟩
    · rw [en_111, q_111_0]
      by_cases k : lev < 0
      · rw [if_pos k]
      · rw [if_neg k, if_neg (by omega)]
    · rw [en_185, q_185_0, m_in, Cb_I, q_185_6, if_neg (fun q => q (bI_0.2 hl))]
end
