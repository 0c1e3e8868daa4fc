/-! the plan of a build: the reference -/
def rm (M P : ZM) : Prop := (M 138 6 = P 0 0 ∧ M 138 8 = P 0 1 ∧ M 138 10 = P 0 2) ∧ (∀ i, 0 ≤ i → i < P 0 1 → M 143 (4 * i) = P 1 i ∧ M 143 (4 * i + 1) = P 2 i ∧ M 143 (4 * i + 2) = P 3 i ∧ M 143 (4 * i + 3) = P 4 i) ∧ ∀ j, 0 ≤ j → j < P 0 2 → M 144 (3 * j) = P 5 j ∧ M 144 (3 * j + 1) = P 6 j ∧ M 144 (3 * j + 2) = P 7 j
def frp (M M' : ZM) : Prop := (∀ b, b ≠ 138 → b ≠ 143 → b ≠ 144 → M' b = M b) ∧ ∀ f, f ≠ 6 → f ≠ 8 → f ≠ 10 → M' 138 f = M 138 f
theorem frp_t {M M' M'' : ZM} (h : frp M M') (k : frp M' M'') : frp M M'' := ⟨fun b h1 h2 h3 => (k.1 b h1 h2 h3).trans (h.1 b h1 h2 h3), fun f h1 h2 h3 => (k.2 f h1 h2 h3).trans (h.2 f h1 h2 h3)⟩
section
variable {d : Nat} {M P : ZM} {x y w h : Int}
theorem m_draw {n : Int} (hn : 0 < n) : E (d + 1) 181 [zR 138, zI n] M = Rt (some (zI (drv (nxr (M 138 6)) n))) (zwr M 138 6 (nxr (M 138 6))) := by
  rw [en_181, q_181_0, if_pos (by omega), zwr_at]
  rfl
theorem rm_r {v : Int} (k : rm M P) : rm (zwr M 138 6 v) (zwr P 0 0 v) := by
  unfold rm at k ⊢
  rw [zwr_at, zwr_at, zwr_nj (by decide), zwr_nj (by decide), zwr_nj (by decide), zwr_nj (by decide), zwr_n (by decide), zwr_n (by decide), zwr_n (by decide), zwr_n (by decide), zwr_n (by decide), zwr_n (by decide), zwr_n (by decide), zwr_n (by decide), zwr_n (by decide)]
  exact ⟨⟨rfl, k.1.2⟩, k.2⟩
theorem frp_r {v : Int} : frp M (zwr M 138 6 v) := ⟨fun b h1 _ _ => zwr_n h1, fun f h1 _ _ => zwr_nj h1⟩
theorem m_leaf {v5 : Int} (k : rm M P) (hn : 0 ≤ P 0 1 ∧ P 0 1 < 20) : ∃ M', Q d 182 18 [zR 138, zI x, zI y, zI w, zI h, zI v5, zU, zU, zU, zU, zU] [] M = Rt none M' ∧ rm M' (pLf x y w h P) ∧ frp M M' := by
  obtain ⟨⟨k1, k2, k3⟩, k4, k5⟩ := k
  obtain ⟨p0, p1, p2, l1, l2, l3, l4, lb⟩ := pLf_0 (P := P) (x := x) (y := y) (w := w) (h := h)
  have z0 : zw (4 * P 0 1) = 4 * P 0 1 := zw_id (by omega)
  have z1 : zw (4 * P 0 1 + 1) = 4 * P 0 1 + 1 := zw_id (by omega)
  have z2 : zw (4 * P 0 1 + 2) = 4 * P 0 1 + 2 := zw_id (by omega)
  have z3 : zw (4 * P 0 1 + 3) = 4 * P 0 1 + 3 := zw_id (by omega)
  refine ⟨zwr (zwr (zwr (zwr (zwr M 143 (4 * P 0 1) x) 143 (4 * P 0 1 + 1) y) 143 (4 * P 0 1 + 2) w) 143 (4 * P 0 1 + 3) h) 138 8 (P 0 1 + 1), ?_, ⟨⟨?_, ?_, ?_⟩, fun i i0 i1 => ?_, fun j j0 j1 => ?_⟩, fun b h1 h2 h3 => ?_, fun f h1 h2 h3 => ?_⟩
  · rw [q_182_18, k2, z0, z1, z2, z3, if_pos (by omega), if_pos (by omega), if_pos (by omega), if_pos (by omega), zwr_ne (show (138 : Nat) ≠ 143 by decide), zwr_ne (show (138 : Nat) ≠ 143 by decide), zwr_ne (show (138 : Nat) ≠ 143 by decide), zwr_ne (show (138 : Nat) ≠ 143 by decide), k2, zw_id (by omega)]
  · rw [zwr_nj (by decide), zwr_ne (by decide), zwr_ne (by decide), zwr_ne (by decide), zwr_ne (by decide), p0, k1]
  · rw [zwr_at, p1]
  · rw [zwr_nj (by decide), zwr_ne (by decide), zwr_ne (by decide), zwr_ne (by decide), zwr_ne (by decide), p2, k3]
  · rw [p1] at i1
    rw [l1, l2, l3, l4, zwr_n (by decide)]
    by_cases e : i = P 0 1
    · rw [if_pos e, if_pos e, if_pos e, if_pos e, e]
      refine ⟨?_, ?_, ?_, zwr_at⟩
      · rw [zwr_nj (by omega), zwr_nj (by omega), zwr_nj (by omega)]
        exact zwr_at
      · rw [zwr_nj (by omega), zwr_nj (by omega)]
        exact zwr_at
      · rw [zwr_nj (by omega)]
        exact zwr_at
    · rw [if_neg e, if_neg e, if_neg e, if_neg e]
      have o : ∀ t : Int, 0 ≤ t ∧ t ≤ 3 → zwr (zwr (zwr (zwr M 143 (4 * P 0 1) x) 143 (4 * P 0 1 + 1) y) 143 (4 * P 0 1 + 2) w) 143 (4 * P 0 1 + 3) h 143 (4 * i + t) = M 143 (4 * i + t) := fun t ht => by rw [zwr_nj (by omega), zwr_nj (by omega), zwr_nj (by omega), zwr_nj (by omega)]
      have o0 := o 0 (by omega)
      rw [Int.add_zero] at o0
      rw [o0, o 1 (by omega), o 2 (by omega), o 3 (by omega)]
      exact k4 i i0 (by omega)
  · rw [p2] at j1
    rw [lb 5 (by omega), lb 6 (by omega), lb 7 (by omega), zwr_n (by decide), zwr_n (by decide), zwr_n (by decide), zwr_n (by decide), zwr_n (by decide)]
    exact k5 j j0 j1
  · rw [zwr_n h1, zwr_n h2, zwr_n h2, zwr_n h2, zwr_n h2]
  · rw [zwr_nj h2, zwr_ne (by decide), zwr_ne (by decide), zwr_ne (by decide), zwr_ne (by decide)]
theorem m_cutn {v1 v2 v3 v4 v5 v6 v7 a b : Int} (k : rm M P) (hn : 0 ≤ P 0 2 ∧ P 0 2 < 20) : ∃ M', Q d 182 247 [zR 138, zI v1, zI v2, zI v3, zI v4, zI v5, zI v6, zI v7, zI a, zI b, zU] [] M = Rt none M' ∧ rm M' (pCu a b P) ∧ frp M M' := by
  obtain ⟨⟨k1, k2, k3⟩, k4, k5⟩ := k
  obtain ⟨p0, p1, p2, l5, l6, l7, lb⟩ := pCu_0 (P := P) (a := a) (b := b)
  have z0 : zw (3 * P 0 2) = 3 * P 0 2 := zw_id (by omega)
  have z1 : zw (3 * P 0 2 + 1) = 3 * P 0 2 + 1 := zw_id (by omega)
  have z2 : zw (3 * P 0 2 + 2) = 3 * P 0 2 + 2 := zw_id (by omega)
  refine ⟨zwr (zwr (zwr (zwr M 144 (3 * P 0 2) a) 144 (3 * P 0 2 + 1) b) 144 (3 * P 0 2 + 2) (P 0 1)) 138 10 (P 0 2 + 1), ?_, ⟨⟨?_, ?_, ?_⟩, fun i i0 i1 => ?_, fun j j0 j1 => ?_⟩, fun b h1 h2 h3 => ?_, fun f h1 h2 h3 => ?_⟩
  · rw [q_182_247, k3, z0, z1, z2, if_pos (by omega), if_pos (by omega), if_pos (by omega)]
    simp only [zwr_ne (show (138 : Nat) ≠ 144 by decide), k2, k3]
    rw [zw_id (by omega)]
  · rw [zwr_nj (by decide), zwr_ne (by decide), zwr_ne (by decide), zwr_ne (by decide), p0, k1]
  · rw [zwr_nj (by decide), zwr_ne (by decide), zwr_ne (by decide), zwr_ne (by decide), p1, k2]
  · rw [zwr_at, p2]
  · rw [p1] at i1
    rw [lb 1 (by omega) (by omega), lb 2 (by omega) (by omega), lb 3 (by omega) (by omega), lb 4 (by omega) (by omega), zwr_n (by decide), zwr_n (by decide), zwr_n (by decide), zwr_n (by decide)]
    exact k4 i i0 i1
  · rw [p2] at j1
    rw [l5, l6, l7, zwr_n (by decide)]
    by_cases e : j = P 0 2
    · rw [if_pos e, if_pos e, if_pos e, e]
      refine ⟨?_, ?_, zwr_at⟩
      · rw [zwr_nj (by omega), zwr_nj (by omega)]
        exact zwr_at
      · rw [zwr_nj (by omega)]
        exact zwr_at
    · rw [if_neg e, if_neg e, if_neg e]
      have o : ∀ t : Int, 0 ≤ t ∧ t ≤ 2 → zwr (zwr (zwr M 144 (3 * P 0 2) a) 144 (3 * P 0 2 + 1) b) 144 (3 * P 0 2 + 2) (P 0 1) 144 (3 * j + t) = M 144 (3 * j + t) := fun t ht => by rw [zwr_nj (by omega), zwr_nj (by omega), zwr_nj (by omega)]
      have o0 := o 0 (by omega)
      rw [Int.add_zero] at o0
      rw [o0, o 1 (by omega), o 2 (by omega)]
      exact k5 j j0 (by omega)
  · rw [zwr_n h1, zwr_n h3, zwr_n h3, zwr_n h3]
  · rw [zwr_nj h3, zwr_ne (by decide), zwr_ne (by decide), zwr_ne (by decide)]
theorem m_to137 {v5 : Int} (hw : w ≤ 24) (hh : h ≤ 24) (c : ¬ (w < 10 ∧ h < 10)) (h5 : v5 ≠ 0) : E (d + 2) 182 [zR 138, zI x, zI y, zI w, zI h, zI v5] M = Q (d + 1) 182 137 [zR 138, zI x, zI y, zI w, zI h, zI v5, zI (pS w h (M 138 6)), zU, zU, zU, zU] [zI (drv (pR w h (M 138 6)) ((if pS w h (M 138 6) = 1 then w else h) - 9)), zI 5] (zwr M 138 6 (pR w h (M 138 6))) := by
  rw [en_182, q_182_0, if_neg h5]
  have z2 : ∀ q : Int, 10 ≤ q → q ≤ 24 → zw (q - 9) = q - 9 := fun q q0 q1 => zw_id (by omega)
  by_cases a : 10 ≤ w
  · rw [if_pos a, q_182_76, if_neg (by omega)]
    by_cases b : 10 ≤ h
    · rw [if_neg (by omega), m_draw (by decide), Cb_I, q_182_94]
      by_cases e : drv (nxr (M 138 6)) 2 = 0
      · have s : pS w h (M 138 6) = 1 := by unfold pS; rw [if_pos a, if_pos b, if_pos e]
        have r : pR w h (M 138 6) = nxr (nxr (M 138 6)) := by unfold pR; rw [if_pos a, if_pos b]
        rw [if_neg (fun q => q e), z2 w a hw, m_draw (by omega), Cb_I, zwr_at, zwr_tw, s, r, if_pos rfl]
      · have s : pS w h (M 138 6) = 0 := by unfold pS; rw [if_pos a, if_pos b, if_neg e]
        have r : pR w h (M 138 6) = nxr (nxr (M 138 6)) := by unfold pR; rw [if_pos a, if_pos b]
        rw [if_pos e, z2 h b hh, m_draw (by omega), Cb_I, zwr_at, zwr_tw, s, r, if_neg (by decide)]
    · have s : pS w h (M 138 6) = 1 := by unfold pS; rw [if_pos a, if_neg b]
      have r : pR w h (M 138 6) = nxr (M 138 6) := by unfold pR; rw [if_pos a, if_neg b]
      rw [if_pos (by omega), q_182_105, if_neg (by omega), z2 w a hw, m_draw (by omega), Cb_I, s, r, if_pos rfl]
  · have b : 10 ≤ h := by omega
    have s : pS w h (M 138 6) = 0 := by unfold pS; rw [if_neg a]
    have r : pR w h (M 138 6) = nxr (M 138 6) := by unfold pR; rw [if_neg a]
    rw [if_neg a, if_pos b, q_182_76, if_pos (by omega), q_182_105, if_pos (by omega), z2 h b hh, m_draw (by omega), Cb_I, s, r, if_neg (by decide)]
theorem m_parts (k : Nat) : ∀ (x y w h : Int) (M P : ZM), k ≤ 5 → rm M P → (5 ≤ w ∧ w ≤ 24) → (5 ≤ h ∧ h ≤ 24) → (0 ≤ x ∧ x + w ≤ 24) → (0 ≤ y ∧ y + h ≤ 24) → (0 ≤ P 0 1 ∧ P 0 1 + cp w h ≤ 20) → (0 ≤ P 0 2 ∧ P 0 2 + cp w h ≤ 20) → ∃ M', E (d + k + 2) 182 [zR 138, zI x, zI y, zI w, zI h, zI k] M = Rt none M' ∧ rm M' (pl k x y w h P) ∧ frp M M' := by
  induction k with
  | zero =>
    intro x y w h M P _ r hw hh hx hy hn hc
    have := cp_1 hw.1 hh.1
    obtain ⟨M', e, r', f⟩ := m_leaf (d := d + 1) (x := x) (y := y) (w := w) (h := h) (v5 := 0) r (by omega)
    refine ⟨M', ?_, r', f⟩
    show E (d + 1 + 1) 182 [zR 138, zI x, zI y, zI w, zI h, zI 0] M = _
    rw [en_182, q_182_0, if_pos rfl]
    exact e
  | succ k ih =>
    intro x y w h M P hk r hw hh hx hy hn hc
    have c1 := cp_1 hw.1 hh.1
    have ev : ((k + 1 : Nat) : Int) = (k : Int) + 1 := rfl
    rw [show d + (k + 1) + 2 = (d + k + 1) + 2 by omega, ev]
    show ∃ M', E (d + k + 1 + 2) 182 [zR 138, zI x, zI y, zI w, zI h, zI ((k : Int) + 1)] M = Rt none M' ∧ rm M' (if w < 10 ∧ h < 10 then pLf x y w h P else pl3 (pl k) x y w h (pZ w h (P 0 0)) (pS w h (P 0 0)) (zwr P 0 0 (pR w h (P 0 0)))) ∧ frp M M'
    by_cases c : w < 10 ∧ h < 10
    · obtain ⟨M', e, r', f⟩ := m_leaf (d := d + k + 2) (x := x) (y := y) (w := w) (h := h) (v5 := (k : Int) + 1) r (by omega)
      refine ⟨M', ?_, by rw [if_pos c]; exact r', f⟩
      show E (d + k + 2 + 1) 182 [zR 138, zI x, zI y, zI w, zI h, zI ((k : Int) + 1)] M = _
      rw [en_182, q_182_0, if_neg (by omega), if_neg (by omega), if_neg (by omega)]
      exact e
    · rw [if_neg c]
      unfold pl3
      have zk : zw ((k : Int) + 1 - 1) = (k : Int) := by rw [zw_id (by omega)]; omega
      have r6 := r.1.1
      rw [m_to137 (d := d + k + 1) hw.2 hh.2 c (by omega), r6]
      have r0 := rm_r (v := pR w h (P 0 0)) r
      have f0 : frp M (zwr M 138 6 (pR w h (P 0 0))) := frp_r
      generalize zwr M 138 6 (pR w h (P 0 0)) = M0 at *
      have n0 : (zwr P 0 0 (pR w h (P 0 0))) 0 1 = P 0 1 := zwr_nj (by decide)
      have n1 : (zwr P 0 0 (pR w h (P 0 0))) 0 2 = P 0 2 := zwr_nj (by decide)
      have zr := pZ_rg (r := P 0 0) c
      have zz : zw (5 + drv (pR w h (P 0 0)) ((if pS w h (P 0 0) = 1 then w else h) - 9)) = pZ w h (P 0 0) := by
        show zw (pZ w h (P 0 0)) = _
        exact zw_id (by omega)
      rw [q_182_137, zz]
      generalize pZ w h (P 0 0) = z at *
      generalize zwr P 0 0 (pR w h (P 0 0)) = P0 at *
      have b8 : M0 138 8 = P0 0 1 := r0.1.2.1
      rcases zr with ⟨s, z1, z2, z3⟩ | ⟨s, z1, z2, z3⟩
      · have cs := cp_s (a := z) (b := w - z) (w := w) (h := h) (by omega) (by omega) (by omega) (by omega)
        have ca := cp_1 (w := z) (h := h) (by omega) (by omega)
        have cb := cp_1 (w := w - z) (h := h) (by omega) (by omega)
        obtain ⟨M1, e1, r1, f1⟩ := ih x y z h M0 P0 (by omega) r0 (by omega) hh (by omega) hy (by omega) (by omega)
        have sp := pl_sp k x y z h P0 (by omega) hh.1
        obtain ⟨sp1, sp2, -⟩ := sp
        rw [s, if_pos rfl, if_neg (by decide), if_neg (by decide), zk]
        generalize pl k x y z h P0 = P1 at *
        obtain ⟨M2, e2, r2, f2⟩ := ih (x + z) y (w - z) h M1 P1 (by omega) r1 (by omega) hh (by omega) hy (by omega) (by omega)
        obtain ⟨tp1, tp2, -⟩ := pl_sp k (x + z) y (w - z) h P1 (by omega) hh.1
        generalize pl k (x + z) y (w - z) h P1 = P2 at *
        obtain ⟨M3, e3, r3, f3⟩ := m_cutn (d := d + k + 2) (v1 := x) (v2 := y) (v3 := w) (v4 := h) (v5 := (k : Int) + 1) (v6 := 1) (v7 := z) (a := P0 0 1) (b := P1 0 1) r2 (by omega)
        refine ⟨M3, ?_, r3, frp_t f0 (frp_t f1 (frp_t f2 f3))⟩
        rw [e1, Cb_V, q_182_179, if_neg (by decide), q_182_199, if_neg (by decide), q_182_212, if_neg (by decide), if_neg (by decide), b8, r1.1.2.1, zw_id (x := x + z) (by omega), zw_id (x := w - z) (by omega), zk, e2, Cb_V]
        exact e3
      · have cs := cp_s (a := z) (b := h - z) (w := h) (h := w) (by omega) (by omega) (by omega) (by omega)
        rw [cp_c z w, cp_c (h - z) w, cp_c h w] at cs
        have ca := cp_1 (w := w) (h := z) (by omega) (by omega)
        have cb := cp_1 (w := w) (h := h - z) (by omega) (by omega)
        obtain ⟨M1, e1, r1, f1⟩ := ih x y w z M0 P0 (by omega) r0 hw (by omega) hx (by omega) (by omega) (by omega)
        obtain ⟨sp1, sp2, -⟩ := pl_sp k x y w z P0 hw.1 (by omega)
        rw [s, if_pos rfl, if_pos rfl, if_neg (show ¬ ((0 : Int) = 1) by decide), zk]
        generalize pl k x y w z P0 = P1 at *
        obtain ⟨M2, e2, r2, f2⟩ := ih x (y + z) w (h - z) M1 P1 (by omega) r1 hw (by omega) hx (by omega) (by omega) (by omega)
        obtain ⟨tp1, tp2, -⟩ := pl_sp k x (y + z) w (h - z) P1 hw.1 (by omega)
        generalize pl k x (y + z) w (h - z) P1 = P2 at *
        obtain ⟨M3, e3, r3, f3⟩ := m_cutn (d := d + k + 2) (v1 := x) (v2 := y) (v3 := w) (v4 := h) (v5 := (k : Int) + 1) (v6 := 0) (v7 := z) (a := P0 0 1) (b := P1 0 1) r2 (by omega)
        refine ⟨M3, ?_, r3, frp_t f0 (frp_t f1 (frp_t f2 f3))⟩
        rw [e1, Cb_V, q_182_179, if_pos rfl, q_182_199, if_pos rfl, q_182_212, if_pos rfl, if_pos rfl, b8, r1.1.2.1, zw_id (x := y + z) (by omega), zw_id (x := h - z) (by omega), zk, e2, Cb_V]
        exact e3
end
