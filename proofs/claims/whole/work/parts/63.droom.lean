/-! the rooms of a build are drawn -/
def pgo (P : ZM) (n : Int) : Prop := (0 ≤ n ∧ n ≤ 12) ∧ ∀ i, 0 ≤ i → i < n → pin P i 0 0 24 16 ∧ ∀ j, 0 ≤ j → j < i → psep P j i
section
variable {d : Nat} {M P : ZM} {g : Int → Int}
theorem m_least {t : Int} (ht : 0 ≤ t ∧ t < 100) : E (d + 1) 183 [zI 12, zI (zw (3 + t))] M = Rt (some (zI (mn3 t))) M := by
  rw [en_183, q_183_0, zw_id (by omega)]
  unfold mn3
  by_cases e : 3 + t < 12
  · rw [if_pos (by omega), if_pos e]
  · rw [if_neg e]
    by_cases l : 3 + t = 12
    · rw [if_pos (by omega), l]
    · rw [if_neg (by omega)]
theorem x_least {t : Int} (ht : 0 ≤ t ∧ t < 100) : (if zw (3 + t) < 12 then zw (3 + t) else 12) = mn3 t := by
  rw [zw_id (by omega)]
  rfl
theorem x_droom {i r q : Int} (hw : WF g) (hd : dgr M 1 g) (hi : 0 ≤ i ∧ i < 12) (hg : g 120 = i) (hr : M 109 11 = r) (hq : 0 ≤ q ∧ q < 23) (xd : xpd M q (P 1 i) (P 2 i) (P 3 i) (P 4 i)) (pi : pin P i 0 0 24 16) (sep : ∀ j, 0 ≤ j → j < i → psep P j i ∧ rin P g j) : ∃ M', E (d + 9) 8 [zR 109, zR 1, zI q] M = Rt none M' ∧ M' 109 11 = nxr (nxr (nxr (nxr r))) ∧ (∀ f, f ≠ 11 → M' 109 f = M 109 f) ∧ (∀ b, b < 1 ∨ 9 < b → b ≠ 109 → M' b = M b) ∧ dgr M' 1 (gAdd g (qX P i r) (qY P i r) (qW P i r) (qH P i r)) := by
  obtain ⟨q1, q2, q3, q4, q5⟩ := q_geo (r := r) hw hg pi sep
  obtain ⟨x1, x2, x3, x4⟩ := xd
  unfold pin at pi
  have t1 := drv_rg (r := nxr r) (n := P 3 i - 4) (by omega)
  have t2 := drv_rg (r := nxr (nxr r)) (n := P 4 i - 4) (by omega)
  have t3 := drv_rg (r := nxr (nxr (nxr r))) (n := P 3 i - qW P i r - 1) (by omega)
  have t4 := drv_rg (r := nxr (nxr (nxr (nxr r)))) (n := P 4 i - qH P i r - 1) (by omega)
  have fr : ∀ v b, b ≠ 109 → zwr M 109 11 v b = M b := fun v b h => zwr_n h
  obtain ⟨M', e', f', d'⟩ := (e_roomq hw q2 q3 (by omega)).1 d (zwr M 109 11 (nxr (nxr (nxr (nxr r))))) (dgr_cg (fun b b0 b1 => fr _ b (by omega)) hd)
  refine ⟨M', ?_, ?_, fun f hf => ?_, fun b hb h9 => ?_, d'⟩
  · rw [en_8, q_8_0, if_pos hq, x3, zw_id (x := P 3 i - 4) (by omega), x_rnd (by omega), Cb_I, hr, q_8_15, if_pos hq, x_least (by omega)]
    show Cb (E (d + 8) 2 [zR 109, zI (zw (zwr M 109 11 (nxr r) 113 q - 4))] (zwr M 109 11 (nxr r))) (fun v h => zrun (zevl (d + 8)) 8 35 [zR 109, zR 1, zI q, zI (qW P i r), zU, zU, zU] (v.toList ++ [zI 3, zI 12]) h) = _
    rw [fr _ 113 (by decide), x4, zw_id (x := P 4 i - 4) (by omega), x_rnd (by omega), Cb_I, zwr_at, zwr_tw, q_8_35, if_pos hq, if_pos hq, x_least (by omega)]
    show Cb (E (d + 8) 2 [zR 109, zI (zw (zw (zwr M 109 11 (nxr (nxr r)) 112 q - qW P i r) - 1))] (zwr M 109 11 (nxr (nxr r)))) (fun v h => zrun (zevl (d + 8)) 8 63 [zR 109, zR 1, zI q, zI (qW P i r), zI (qH P i r), zU, zU] (v.toList ++ [zI (zw (zwr M 109 11 (nxr (nxr r)) 110 q + 1))]) h) = _
    rw [fr _ 112 (by decide), fr _ 110 (by decide), x3, x1, zw_id (x := P 3 i - qW P i r) (by omega), zw_id (x := P 3 i - qW P i r - 1) (by omega), x_rnd (by omega), Cb_I, zwr_at, zwr_tw, q_8_63, if_pos hq, if_pos hq, fr _ 113 (by decide), fr _ 111 (by decide), x4, x2, zw_id (x := P 4 i - qH P i r) (by omega), zw_id (x := P 4 i - qH P i r - 1) (by omega), x_rnd (by omega), Cb_I, zwr_at, zwr_tw, q_8_89, zw_id (x := P 1 i + 1) (by omega), zw_id (x := P 2 i + 1) (by omega), zw_id (x := P 1 i + 1 + drv (nxr (nxr (nxr r))) (P 3 i - qW P i r - 1)) (by omega), zw_id (x := P 2 i + 1 + drv (nxr (nxr (nxr (nxr r)))) (P 4 i - qH P i r - 1)) (by omega)]
    show Cb (E (d + 8) 17 [zR 1, zI (qX P i r), zI (qY P i r), zI (qW P i r), zI (qH P i r)] _) _ = _
    rw [e', Cb_I]
    exact q_8_103 _ _ _ _ _ _ _
  · rw [f' 109 (by omega), zwr_at]
  · rw [f' 109 (by omega), zwr_nj hf]
  · rw [f' b hb, zwr_n h9]
theorem m_droom {i r v1 v2 v3 : Int} {z5 z6 z7 z8 z9 : ZV} (hw : WF g) (hm : M 139 = g) (hi : 0 ≤ i ∧ i < 12) (hg : g 120 = i) (hr : M 138 6 = r) (hn : i < M 138 8) (xd : M 143 (4 * i) = P 1 i ∧ M 143 (4 * i + 1) = P 2 i ∧ M 143 (4 * i + 2) = P 3 i ∧ M 143 (4 * i + 3) = P 4 i) (pi : pin P i 0 0 24 16) (sep : ∀ j, 0 ≤ j → j < i → psep P j i ∧ rin P g j) : ∃ M' y5 y6 y7 y8 y9, Q (d + 8) 185 85 [zR 138, zI v1, zI v2, zI v3, zI i, z5, z6, z7, z8, z9] [] M = Q (d + 8) 185 85 [zR 138, zI v1, zI v2, zI v3, zI (i + 1), y5, y6, y7, y8, y9] [] M' ∧ M' 138 6 = nxr (nxr (nxr (nxr r))) ∧ (∀ f, f ≠ 6 → M' 138 f = M 138 f) ∧ (∀ b, b ≠ 138 → b ≠ 139 → M' b = M b) ∧ M' 139 = gAdd g (qX P i r) (qY P i r) (qW P i r) (qH P i r) := by
  obtain ⟨q1, q2, q3, q4, q5⟩ := q_geo (r := r) hw hg pi sep
  obtain ⟨x1, x2, x3, x4⟩ := xd
  unfold pin at pi
  have t1 := drv_rg (r := nxr r) (n := P 3 i - 4) (by omega)
  have t2 := drv_rg (r := nxr (nxr r)) (n := P 4 i - 4) (by omega)
  have t3 := drv_rg (r := nxr (nxr (nxr r))) (n := P 3 i - qW P i r - 1) (by omega)
  have t4 := drv_rg (r := nxr (nxr (nxr (nxr r)))) (n := P 4 i - qH P i r - 1) (by omega)
  have z0 : zw (4 * i) = 4 * i := zw_id (by omega)
  have z1 : zw (4 * i + 1) = 4 * i + 1 := zw_id (by omega)
  have z2 : zw (4 * i + 2) = 4 * i + 2 := zw_id (by omega)
  have z3 : zw (4 * i + 3) = 4 * i + 3 := zw_id (by omega)
  have fr : ∀ v b, b ≠ 138 → zwr M 138 6 v b = M b := fun v b h => zwr_n h
  obtain ⟨M', e', f', d'⟩ := (e_roomq hw q2 q3 (by omega)).2 d (zwr M 138 6 (nxr (nxr (nxr (nxr r))))) (by rw [fr _ 139 (by decide)]; exact hm)
  refine ⟨M', zI (qW P i r), zI (qH P i r), zI (qX P i r), zI (qY P i r), zI (g 120), ?_, ?_, fun f hf => ?_, fun b h8 h9 => ?_, d'⟩
  · rw [q_185_85, if_neg (by omega), z0, z2, if_pos (by omega), x3, zw_id (x := P 3 i - 4) (by omega), m_draw (by omega), Cb_I, hr, q_185_114, m_least (by omega), Cb_I, q_185_118, z0, z3, if_pos (by omega)]
    show Cb (E (d + 8) 181 [zR 138, zI (zw (zwr M 138 6 (nxr r) 143 (4 * i + 3) - 4))] (zwr M 138 6 (nxr r))) (fun v h => zrun (zevl (d + 8)) 185 140 [zR 138, zI v1, zI v2, zI v3, zI i, zI (qW P i r), z6, z7, z8, z9] (v.toList ++ [zI 3, zI 12]) h) = _
    rw [fr _ 143 (by decide), x4, zw_id (x := P 4 i - 4) (by omega), m_draw (by omega), Cb_I, zwr_at, zwr_tw, q_185_140, m_least (by omega), Cb_I, q_185_144, z0, z2, if_pos (by omega), if_pos (by omega)]
    show Cb (E (d + 8) 181 [zR 138, zI (zw (zw (zwr M 138 6 (nxr (nxr r)) 143 (4 * i + 2) - qW P i r) - 1))] (zwr M 138 6 (nxr (nxr r)))) (fun v h => zrun (zevl (d + 8)) 185 177 [zR 138, zI v1, zI v2, zI v3, zI i, zI (qW P i r), zI (qH P i r), z7, z8, z9] (v.toList ++ [zI (zw (zwr M 138 6 (nxr (nxr r)) 143 (4 * i) + 1))]) h) = _
    rw [fr _ 143 (by decide), x3, x1, zw_id (x := P 3 i - qW P i r) (by omega), zw_id (x := P 3 i - qW P i r - 1) (by omega), m_draw (by omega), Cb_I, zwr_at, zwr_tw, q_185_177, z0, z1, z3, if_pos (by omega), if_pos (by omega), fr _ 143 (by decide), x4, x2, zw_id (x := P 4 i - qH P i r) (by omega), zw_id (x := P 4 i - qH P i r - 1) (by omega), m_draw (by omega), Cb_I, zwr_at, zwr_tw, q_185_213, zw_id (x := P 1 i + 1) (by omega), zw_id (x := P 2 i + 1) (by omega), zw_id (x := P 1 i + 1 + drv (nxr (nxr (nxr r))) (P 3 i - qW P i r - 1)) (by omega), zw_id (x := P 2 i + 1 + drv (nxr (nxr (nxr (nxr r)))) (P 4 i - qH P i r - 1)) (by omega)]
    show Cb (E (d + 8) 166 [zR 138, zI (qX P i r), zI (qY P i r), zI (qW P i r), zI (qH P i r)] _) (fun v h => zrun (zevl (d + 8)) 185 228 [zR 138, zI v1, zI v2, zI v3, zI i, zI (qW P i r), zI (qH P i r), zI (qX P i r), zI (qY P i r), z9] (v.toList ++ []) h) = _
    rw [e', Cb_I, q_185_228, zw_id (x := i + 1) (by omega)]
  · rw [f' 138 (by decide), zwr_at]
  · rw [f' 138 (by decide), zwr_nj hf]
  · rw [f' b h9, zwr_n h8]
theorem rmI_s {n : Int} (h : 0 ≤ n) : rmI P g (n + 1) = rmS P n (rmI P g n) := its_s h
theorem rmI_K {n i : Int} (go : pgo P n) (hw : WF g) (h0 : g 120 = 0) (i0 : 0 ≤ i) (hi : i ≤ n) : rmK P i (rmI P g i) := by
  have main : ∀ k : Nat, (k : Int) ≤ n → rmK P k (rmI P g k) := by
    intro k
    induction k with
    | zero => intro _; exact ⟨hw, h0, fun j j0 j1 => absurd j1 (by omega)⟩
    | succ k ih =>
      intro hk
      have e : ((k + 1 : Nat) : Int) = (k : Int) + 1 := rfl
      rw [e] at hk ⊢
      rw [rmI_s (by omega)]
      exact rmS_K (ih (by omega)) (by have := go.1; omega) (go.2 k (by omega) (by omega)).1 (go.2 k (by omega) (by omega)).2
  have := main i.toNat (by omega)
  rw [Int.toNat_of_nonneg i0] at this
  exact this
theorem x_rooms {n v2 v3 : Int} (go : pgo P n) (hn : P 0 1 = n) (r : rx M P) (hp : M 109 8 ≤ 23) (hw : WF g) (h0 : g 120 = 0) (hd : dgr M 1 g) : ∃ M', Q (d + 9) 1 42 [zR 109, zR 1, zI v2, zI v3, zI 0] [] M = Q (d + 9) 1 72 [zR 109, zR 1, zI v2, zI v3, zI 0] [] M' ∧ (∀ f, f ≠ 11 → M' 109 f = M 109 f) ∧ (∀ b, b < 1 ∨ 9 < b → b ≠ 109 → M' b = M b) ∧ dgr M' 1 (rmI P g n).2 := by
  obtain ⟨⟨r1, r2, r3⟩, r4, r5⟩ := r
  refine lpi (fun i M' => Q (d + 9) 1 42 [zR 109, zR 1, zI v2, zI v3, zI i] [] M') (fun o => ∃ M', o = Q (d + 9) 1 72 [zR 109, zR 1, zI v2, zI v3, zI 0] [] M' ∧ (∀ f, f ≠ 11 → M' 109 f = M 109 f) ∧ (∀ b, b < 1 ∨ 9 < b → b ≠ 109 → M' b = M b) ∧ dgr M' 1 (rmI P g n).2) n (fun i M' => M' 109 11 = (rmI P g i).1 ∧ (∀ f, f ≠ 11 → M' 109 f = M 109 f) ∧ (∀ b, b < 1 ∨ 9 < b → b ≠ 109 → M' b = M b) ∧ dgr M' 1 (rmI P g i).2) ?_ ?_ 0 M (by have := go.1; omega) ⟨r1, fun _ _ => rfl, fun _ _ _ => rfl, hd⟩
  · rintro i M' i0 i1 ⟨h1, h2, h3, h4⟩
    have k := rmI_K go hw h0 i0 (by omega)
    obtain ⟨k1, k2, k3⟩ := k
    obtain ⟨g1, g2⟩ := go.2 i i0 i1
    have g0 := go.1
    obtain ⟨l1, l2, l3, l4, l5⟩ := r4 i i0 (by omega)
    obtain ⟨M'', e, p1, p2, p3, p4⟩ := x_droom (d := d) (M := M') (P := P) (i := i) (r := (rmI P g i).1) (q := M 116 i) k1 h4 (by omega) k2 h1 (by omega) (by
      unfold xpd
      rw [h3 110 (by omega) (by decide), h3 111 (by omega) (by decide), h3 112 (by omega) (by decide), h3 113 (by omega) (by decide)]
      exact ⟨l2, l3, l4, l5⟩) g1 (fun j j0 j1 => ⟨g2 j j0 j1, k3 j j0 j1⟩)
    refine Or.inr ⟨M'', ?_, by rw [p1, rmI_s i0]; rfl, fun f hf => (p2 f hf).trans (h2 f hf), fun b hb h9 => (p3 b hb h9).trans (h3 b hb h9), by rw [rmI_s i0]; exact p4⟩
    rw [q_1_42, h2 9 (by decide), if_neg (by omega), if_pos (by omega), h3 116 (by omega) (by decide), e, Cb_V, q_1_63, zw_id (by omega)]
  · rintro M' ⟨h1, h2, h3, h4⟩
    refine ⟨M', ?_, h2, h3, h4⟩
    rw [q_1_42, h2 9 (by decide), if_pos (by omega)]
theorem m_rooms {n v1 v2 v3 : Int} {z5 z6 z7 z8 z9 : ZV} (go : pgo P n) (hn : P 0 1 = n) (r : rm M P) (hw : WF g) (h0 : g 120 = 0) (hm : M 139 = g) : ∃ M' y5 y6 y7 y8 y9, Q (d + 8) 185 85 [zR 138, zI v1, zI v2, zI v3, zI 0, z5, z6, z7, z8, z9] [] M = Q (d + 8) 185 239 [zR 138, zI v1, zI v2, zI v3, zI 0, y5, y6, y7, y8, y9] [] M' ∧ (∀ f, f ≠ 6 → M' 138 f = M 138 f) ∧ (∀ b, b ≠ 138 → b ≠ 139 → M' b = M b) ∧ M' 139 = (rmI P g n).2 := by
  obtain ⟨⟨r1, r2, r3⟩, r4, r5⟩ := r
  refine lpi (fun i (s : ZM × ZV × ZV × ZV × ZV × ZV) => Q (d + 8) 185 85 [zR 138, zI v1, zI v2, zI v3, zI i, s.2.1, s.2.2.1, s.2.2.2.1, s.2.2.2.2.1, s.2.2.2.2.2] [] s.1) (fun o => ∃ M' y5 y6 y7 y8 y9, o = Q (d + 8) 185 239 [zR 138, zI v1, zI v2, zI v3, zI 0, y5, y6, y7, y8, y9] [] M' ∧ (∀ f, f ≠ 6 → M' 138 f = M 138 f) ∧ (∀ b, b ≠ 138 → b ≠ 139 → M' b = M b) ∧ M' 139 = (rmI P g n).2) n (fun i s => s.1 138 6 = (rmI P g i).1 ∧ (∀ f, f ≠ 6 → s.1 138 f = M 138 f) ∧ (∀ b, b ≠ 138 → b ≠ 139 → s.1 b = M b) ∧ s.1 139 = (rmI P g i).2) ?_ ?_ 0 (M, z5, z6, z7, z8, z9) (by have := go.1; omega) ⟨r1, fun _ _ => rfl, fun _ _ _ => rfl, hm⟩
  · rintro i ⟨M', z5, z6, z7, z8, z9⟩ i0 i1 ⟨h1, h2, h3, h4⟩
    dsimp only at h1 h2 h3 h4 ⊢
    obtain ⟨k1, k2, k3⟩ := rmI_K go hw h0 i0 (by omega)
    obtain ⟨g1, g2⟩ := go.2 i i0 i1
    have g0 := go.1
    obtain ⟨M'', y5, y6, y7, y8, y9, e, p1, p2, p3, p4⟩ := m_droom (d := d) (M := M') (P := P) (i := i) (r := (rmI P g i).1) (v1 := v1) (v2 := v2) (v3 := v3) (z5 := z5) (z6 := z6) (z7 := z7) (z8 := z8) (z9 := z9) k1 h4 (by omega) k2 h1 (by rw [h2 8 (by decide)]; omega) (by
      rw [h3 143 (by decide) (by decide)]
      exact r4 i i0 (by omega)) g1 (fun j j0 j1 => ⟨g2 j j0 j1, k3 j j0 j1⟩)
    exact Or.inr ⟨(M'', y5, y6, y7, y8, y9), e, by dsimp only; rw [p1, rmI_s i0]; rfl, fun f hf => (p2 f hf).trans (h2 f hf), fun b hb h9 => (p3 b hb h9).trans (h3 b hb h9), by rw [rmI_s i0]; exact p4⟩
  · rintro ⟨M', z5, z6, z7, z8, z9⟩ ⟨h1, h2, h3, h4⟩
    dsimp only at h1 h2 h3 h4 ⊢
    refine ⟨M', z5, z6, z7, z8, z9, ?_, h2, h3, h4⟩
    rw [q_185_85, h2 8 (by decide), if_pos (by omega)]
end
