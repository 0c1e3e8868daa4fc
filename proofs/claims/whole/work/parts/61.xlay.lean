/-! the plan of a build: the class -/
def rxl (M P : ZM) (i : Int) : Prop := (0 ≤ M 116 i ∧ M 116 i < M 109 8) ∧ M 110 (M 116 i) = P 1 i ∧ M 111 (M 116 i) = P 2 i ∧ M 112 (M 116 i) = P 3 i ∧ M 113 (M 116 i) = P 4 i
def rxc (M P : ZM) (j : Int) : Prop := (0 ≤ M 117 j ∧ M 117 j + 1 < M 109 8) ∧ M 114 (M 117 j) = P 5 j ∧ M 115 (M 117 j) = P 6 j ∧ M 114 (M 117 j + 1) = P 6 j ∧ M 115 (M 117 j + 1) = P 7 j
def rx (M P : ZM) : Prop := (M 109 11 = P 0 0 ∧ M 109 9 = P 0 1 ∧ M 109 10 = P 0 2) ∧ (∀ i, 0 ≤ i → i < P 0 1 → rxl M P i) ∧ ∀ j, 0 ≤ j → j < P 0 2 → rxc M P j
def xpd (M : ZM) (p x y w h : Int) : Prop := M 110 p = x ∧ M 111 p = y ∧ M 112 p = w ∧ M 113 p = h
def xkd (M M' : ZM) (n : Int) : Prop := ∀ q, q < n → M' 110 q = M 110 q ∧ M' 111 q = M 111 q ∧ M' 112 q = M 112 q ∧ M' 113 q = M 113 q
def xkf (M M' : ZM) (n p : Int) : Prop := ∀ q, q < n → q ≠ p → M' 114 q = M 114 q ∧ M' 115 q = M 115 q
def xpc (M M' P P' : ZM) (p : Int) : Prop := frr 109 117 M M' ∧ rx M' P' ∧ M' 109 8 + 2 = M 109 8 + 2 * (P' 0 1 - P 0 1) ∧ xkd M M' (M 109 8) ∧ xkf M M' (M 109 8) p ∧ (M' 114 p = P 0 1 ∧ M' 115 p = P' 0 1) ∧ (∀ j, j < P 0 2 → M' 117 j = M 117 j) ∧ ∀ j, P 0 2 ≤ j → j < P' 0 2 → M 109 8 ≤ M' 117 j
section
variable {d : Nat} {M P : ZM} {x y w h p : Int}
theorem x_rnd {n : Int} (hn : 0 < n) : E (d + 1) 2 [zR 109, zI n] M = Rt (some (zI (drv (nxr (M 109 11)) n))) (zwr M 109 11 (nxr (M 109 11))) := by
  rw [en_2, q_2_0, if_pos hn, if_pos (by omega), zwr_at]
  rfl
/-- a part is added -/
def xad (M : ZM) (x y w h : Int) : ZM := zwr (zwr (zwr (zwr (zwr M 110 (M 109 8) x) 111 (M 109 8) y) 112 (M 109 8) w) 113 (M 109 8) h) 109 8 (M 109 8 + 1)
theorem x_add (hp : 0 ≤ M 109 8 ∧ M 109 8 < 23) : E (d + 1) 3 [zR 109, zI x, zI y, zI w, zI h] M = Rt (some (zI (M 109 8))) (xad M x y w h) := by
  rw [en_3, q_3_0]
  simp only [zwr_ne (show (109 : Nat) ≠ 110 by decide), zwr_ne (show (109 : Nat) ≠ 111 by decide), zwr_ne (show (109 : Nat) ≠ 112 by decide), zwr_ne (show (109 : Nat) ≠ 113 by decide), zwr_at]
  rw [if_pos (by omega), if_pos hp, if_pos hp, if_pos hp, if_pos hp, zw_id (x := M 109 8 + 1) (by omega), zw_id (by omega), show M 109 8 + 1 - 1 = M 109 8 by omega]
  rfl
theorem xad_0 : xad M x y w h 109 8 = M 109 8 + 1 ∧ (∀ f, f ≠ 8 → xad M x y w h 109 f = M 109 f) ∧ (∀ b, b < 109 ∨ 113 < b → xad M x y w h b = M b) ∧ xkd M (xad M x y w h) (M 109 8) ∧ xpd (xad M x y w h) (M 109 8) x y w h := by
  unfold xad
  refine ⟨zwr_at, fun f hf => ?_, fun b hb => ?_, fun q hq => ⟨?_, ?_, ?_, ?_⟩, ?_, ?_, ?_, ?_⟩
  · rw [zwr_nj hf, zwr_ne (by decide), zwr_ne (by decide), zwr_ne (by decide), zwr_ne (by decide)]
  · rw [zwr_n (by omega), zwr_n (by omega), zwr_n (by omega), zwr_n (by omega), zwr_n (by omega)]
  · rw [zwr_ne (by decide), zwr_ne (by decide), zwr_ne (by decide), zwr_ne (by decide), zwr_nj (by omega)]
  · rw [zwr_ne (by decide), zwr_ne (by decide), zwr_ne (by decide), zwr_nj (by omega), zwr_ne (by decide)]
  · rw [zwr_ne (by decide), zwr_ne (by decide), zwr_nj (by omega), zwr_ne (by decide), zwr_ne (by decide)]
  · rw [zwr_ne (by decide), zwr_nj (by omega), zwr_ne (by decide), zwr_ne (by decide), zwr_ne (by decide)]
  · rw [zwr_ne (by decide), zwr_ne (by decide), zwr_ne (by decide), zwr_ne (by decide), zwr_at]
  · rw [zwr_ne (by decide), zwr_ne (by decide), zwr_ne (by decide), zwr_at]
  · rw [zwr_ne (by decide), zwr_ne (by decide), zwr_at]
  · rw [zwr_ne (by decide), zwr_at]
/-- a part too small to be cut -/
theorem x_cut0 (hp : 0 ≤ p ∧ p < 23) (hd : xpd M p x y w h) (c : w < 10 ∧ h < 10) : E (d + 3) 7 [zR 109, zI p] M = Rt (some (zI (-1))) M := by
  obtain ⟨h1, h2, h3, h4⟩ := hd
  rw [en_7, q_7_0, if_pos hp, if_pos hp, if_pos hp, if_pos hp, h3, h4, if_neg (by omega), if_pos (by omega)]
theorem x_to135 (hw : 0 ≤ w ∧ w ≤ 24) (hh : 0 ≤ h ∧ h ≤ 24) (hp : 0 ≤ p ∧ p < 23) (hd : xpd M p x y w h) (c : ¬ (w < 10 ∧ h < 10)) (h8 : 0 ≤ M 109 8 ∧ M 109 8 + 2 ≤ 23) : ∃ v6, E (d + 3) 7 [zR 109, zI p] M = Q (d + 2) 7 135 [zR 109, zI p, zI x, zI y, zI w, zI h, zI v6, zI (pS w h (M 109 11)), zU, zU] [zI (drv (pR w h (M 109 11)) ((if pS w h (M 109 11) = 1 then w else h) - 9)), zI 5] (zwr M 109 11 (pR w h (M 109 11))) := by
  obtain ⟨h1, h2, h3, h4⟩ := hd
  have z2 : ∀ q : Int, q ≤ 24 → 0 ≤ q → zw (zw (q - 10) + 1) = q - 9 := fun q q0 q1 => by rw [zw_id (x := q - 10) (by omega), zw_id (by omega)]; omega
  have st : E (d + 3) 7 [zR 109, zI p] M = Q (d + 2) 7 44 [zR 109, zI p, zI x, zI y, zI w, zI h, zU, zU, zU, zU] [] M := by
    rw [en_7, q_7_0, if_pos hp, if_pos hp, if_pos hp, if_pos hp, h1, h2, h3, h4]
    by_cases a : 10 ≤ w
    · rw [if_pos a]
    · rw [if_neg a, if_neg (by omega)]
  rw [st, q_7_44, zw_id (x := M 109 8 + 2) (by omega), if_pos (by omega)]
  by_cases a : 10 ≤ w
  · rw [if_neg (by omega)]
    by_cases b : 10 ≤ h
    · refine ⟨1, ?_⟩
      rw [if_neg (by omega), q_7_76, if_neg (by decide), x_rnd (by decide), Cb_I, q_7_88]
      by_cases e : drv (nxr (M 109 11)) 2 = 0
      · have s : pS w h (M 109 11) = 1 := by unfold pS; rw [if_pos a, if_pos b, if_pos e]
        have r : pR w h (M 109 11) = nxr (nxr (M 109 11)) := by unfold pR; rw [if_pos a, if_pos b]
        rw [if_neg (fun q => q e), z2 w hw.2 (by omega), x_rnd (by omega), Cb_I, zwr_at, zwr_tw, s, r, if_pos rfl]
      · have s : pS w h (M 109 11) = 0 := by unfold pS; rw [if_pos a, if_pos b, if_neg e]
        have r : pR w h (M 109 11) = nxr (nxr (M 109 11)) := by unfold pR; rw [if_pos a, if_pos b]
        rw [if_pos e, z2 h hh.2 (by omega), x_rnd (by omega), Cb_I, zwr_at, zwr_tw, s, r, if_neg (by decide)]
    · refine ⟨0, ?_⟩
      have s : pS w h (M 109 11) = 1 := by unfold pS; rw [if_pos a, if_neg b]
      have r : pR w h (M 109 11) = nxr (M 109 11) := by unfold pR; rw [if_pos a, if_neg b]
      rw [if_pos (by omega), q_7_75, q_7_76, if_pos rfl, if_neg (by omega), z2 w hw.2 (by omega), x_rnd (by omega), Cb_I, s, r, if_pos rfl]
  · refine ⟨0, ?_⟩
    have b : 10 ≤ h := by omega
    have s : pS w h (M 109 11) = 0 := by unfold pS; rw [if_neg a]
    have r : pR w h (M 109 11) = nxr (M 109 11) := by unfold pR; rw [if_neg a]
    rw [if_pos (by omega), q_7_75, q_7_76, if_pos rfl, if_pos (by omega), z2 h hh.2 (by omega), x_rnd (by omega), Cb_I, s, r, if_neg (by decide)]
/-- a part is cut: the two parts in it -/
theorem x_cut1 (hw : 5 ≤ w ∧ w ≤ 24) (hh : 5 ≤ h ∧ h ≤ 24) (hx : 0 ≤ x ∧ x ≤ 24) (hy : 0 ≤ y ∧ y ≤ 24) (hp : 0 ≤ p ∧ p < 23) (hd : xpd M p x y w h) (c : ¬ (w < 10 ∧ h < 10)) (h8 : 0 ≤ M 109 8 ∧ M 109 8 + 2 ≤ 23) : E (d + 3) 7 [zR 109, zI p] M = Rt (some (zI (M 109 8))) (if pS w h (M 109 11) = 1 then xad (xad (zwr M 109 11 (pR w h (M 109 11))) x y (pZ w h (M 109 11)) h) (x + pZ w h (M 109 11)) y (w - pZ w h (M 109 11)) h else xad (xad (zwr M 109 11 (pR w h (M 109 11))) x y w (pZ w h (M 109 11))) x (y + pZ w h (M 109 11)) w (h - pZ w h (M 109 11))) := by
  obtain ⟨v6, e⟩ := x_to135 (d := d) (by omega) (by omega) hp hd c h8
  have zr := pZ_rg (r := M 109 11) c
  have zz : zw (5 + drv (pR w h (M 109 11)) ((if pS w h (M 109 11) = 1 then w else h) - 9)) = pZ w h (M 109 11) := by
    show zw (pZ w h (M 109 11)) = _
    exact zw_id (by omega)
  have n8 : (zwr M 109 11 (pR w h (M 109 11))) 109 8 = M 109 8 := zwr_nj (by decide)
  rw [e, q_7_135, zz]
  generalize zwr M 109 11 (pR w h (M 109 11)) = M0 at *
  generalize pZ w h (M 109 11) = z at *
  rcases zr with ⟨s, z1, z2, z3⟩ | ⟨s, z1, z2, z3⟩
  · have a8 := (xad_0 (M := M0) (x := x) (y := y) (w := z) (h := h)).1
    rw [s, if_neg (by decide), if_pos rfl, x_add (by omega), Cb_I, q_7_153, q_7_166, if_neg (by decide), zw_id (x := x + z) (by omega), zw_id (x := w - z) (by omega), x_add (by omega), Cb_I, q_7_189, n8]
  · have a8 := (xad_0 (M := M0) (x := x) (y := y) (w := w) (h := z)).1
    rw [s, if_pos rfl, if_neg (by decide), x_add (by omega), Cb_I, q_7_166, if_pos rfl, zw_id (x := y + z) (by omega), zw_id (x := h - z) (by omega), x_add (by omega), Cb_I, q_7_209, n8]
/-- a part is left uncut -/
theorem x_uncut (hn : 0 ≤ M 109 9 ∧ M 109 9 < 12) : E (d + 1) 5 [zR 109, zI p] M = Rt none (zwr (zwr M 116 (M 109 9) p) 109 9 (M 109 9 + 1)) := by
  rw [en_5, q_5_0, if_neg (by omega), if_pos hn, zwr_ne (show (109 : Nat) ≠ 116 by decide), zw_id (by omega)]
theorem x_noteCut (hn : 0 ≤ M 109 10 ∧ M 109 10 < 12) : E (d + 1) 6 [zR 109, zI p] M = Rt none (zwr (zwr M 117 (M 109 10) p) 109 10 (M 109 10 + 1)) := by
  rw [en_6, q_6_0, if_neg (by omega), if_pos hn, zwr_ne (show (109 : Nat) ≠ 117 by decide), zw_id (by omega)]
/-- the leaf's steps -/
def xlf (M : ZM) (p : Int) : ZM := zwr (zwr (zwr M 116 (M 109 9) p) 109 9 (M 109 9 + 1)) 115 p (M 109 9 + 1)
theorem xlf_c (hp : 0 ≤ p ∧ p < M 109 8) (hd : xpd M p x y w h) (r : rx M P) (hm : M 114 p = P 0 1) (hc : ∀ j, 0 ≤ j → j < P 0 2 → M 117 j ≠ p ∧ M 117 j + 1 ≠ p) : xpc M (xlf M p) P (pLf x y w h P) p := by
  obtain ⟨⟨r1, r2, r3⟩, r4, r5⟩ := r
  obtain ⟨h1, h2, h3, h4⟩ := hd
  obtain ⟨p0, p1, p2, l1, l2, l3, l4, lb⟩ := pLf_0 (P := P) (x := x) (y := y) (w := w) (h := h)
  have c9 : ∀ f, f ≠ 9 → xlf M p 109 f = M 109 f := fun f hf => by
    unfold xlf
    rw [zwr_ne (by decide), zwr_nj hf, zwr_ne (by decide)]
  have c99 : xlf M p 109 9 = M 109 9 + 1 := by
    unfold xlf
    rw [zwr_ne (by decide), zwr_at]
  have cb : ∀ b, b ≠ 109 → b ≠ 115 → b ≠ 116 → xlf M p b = M b := fun b b1 b2 b3 => by
    unfold xlf
    rw [zwr_n b2, zwr_n b1, zwr_n b3]
  have c5 : ∀ q, q ≠ p → xlf M p 115 q = M 115 q := fun q hq => by
    unfold xlf
    rw [zwr_nj hq, zwr_ne (by decide), zwr_ne (by decide)]
  have c55 : xlf M p 115 p = M 109 9 + 1 := by
    unfold xlf
    rw [zwr_at]
  have c6 : ∀ i, xlf M p 116 i = if i = P 0 1 then p else M 116 i := fun i => by
    unfold xlf
    rw [zwr_ne (by decide), zwr_ne (by decide), zwr_u, r2]
    rfl
  have c0 := cb 110 (by decide) (by decide) (by decide)
  have c1 := cb 111 (by decide) (by decide) (by decide)
  have c2 := cb 112 (by decide) (by decide) (by decide)
  have c3 := cb 113 (by decide) (by decide) (by decide)
  have c4 := cb 114 (by decide) (by decide) (by decide)
  have c7 := cb 117 (by decide) (by decide) (by decide)
  refine ⟨fun b hb => cb b (by omega) (by omega) (by omega), ⟨⟨by rw [c9 11 (by decide), p0, r1], by rw [c99, p1, r2], by rw [c9 10 (by decide), p2, r3]⟩, fun i i0 i1 => ?_, fun j j0 j1 => ?_⟩, by rw [c9 8 (by decide), p1]; omega, fun q _ => by rw [c0, c1, c2, c3]; exact ⟨rfl, rfl, rfl, rfl⟩, fun q _ hq => by rw [c4, c5 q hq]; exact ⟨rfl, rfl⟩, ⟨by rw [c4, hm], by rw [c55, p1, r2]⟩, fun j _ => by rw [c7], fun j j0 j1 => by rw [p2] at j1; omega⟩
  · rw [p1] at i1
    unfold rxl
    rw [c0, c1, c2, c3, c9 8 (by decide), c6, l1, l2, l3, l4]
    by_cases e : i = P 0 1
    · rw [if_pos e, if_pos e, if_pos e, if_pos e, if_pos e]
      exact ⟨hp, h1, h2, h3, h4⟩
    · rw [if_neg e, if_neg e, if_neg e, if_neg e, if_neg e]
      exact r4 i i0 (by omega)
  · rw [p2] at j1
    have := r5 j j0 j1
    have q := hc j j0 j1
    unfold rxc at this ⊢
    rw [c4, c7, c9 8 (by decide), c5 _ q.1, c5 _ q.2, lb 5 (by omega), lb 6 (by omega), lb 7 (by omega)]
    exact this
/-- the cut's end: it is noted, and the part's end -/
def xct (M : ZM) (p f : Int) : ZM := zwr (zwr (zwr M 117 (M 109 10) f) 109 10 (M 109 10 + 1)) 115 p (M 109 9)
/-- the part is cut, both parts in it are done, the cut is noted -/
theorem xct_c {M2 M3 M4 P1 P2 : ZM} {a v : Int} (hp : 0 ≤ p ∧ p < M 109 8) (hn : 0 ≤ P 0 1 ∧ 0 ≤ P 0 2) (r : rx M P) (hc : ∀ j, 0 ≤ j → j < P 0 2 → M 117 j ≠ p ∧ M 117 j + 1 ≠ p) (ha : a = M 109 8) (f2 : frr 109 117 M M2) (k2 : xkd M M2 (M 109 8)) (q2 : xkf M M2 (M 109 8) p) (s2 : M2 109 8 = a + 2 ∧ M2 114 p = P 0 1 ∧ ∀ j, j < P 0 2 → M2 117 j = M 117 j) (c3 : xpc M2 M3 (zwr P 0 0 v) P1 a) (c4 : xpc M3 M4 P1 P2 (a + 1)) (n1 : P 0 1 < P1 0 1 ∧ P 0 2 ≤ P1 0 2) (n2 : P1 0 1 < P2 0 1 ∧ P1 0 2 ≤ P2 0 2) : xpc M (xct M4 p a) P (pCu (P 0 1) (P1 0 1) P2) p := by
  obtain ⟨x1, x2, x3, x4, x5, x6, x7, x8⟩ := c3
  obtain ⟨y1, y2, y3, y4, y5, y6, y7, y8⟩ := c4
  have z1 : zwr P 0 0 v 0 1 = P 0 1 := zwr_nj (by decide)
  have z2 : zwr P 0 0 v 0 2 = P 0 2 := zwr_nj (by decide)
  rw [z1] at x3 x6
  rw [z2] at x7 x8
  obtain ⟨⟨r1, r2, r3⟩, r4, r5⟩ := y2
  obtain ⟨p0, p1, p2, l5, l6, l7, lb⟩ := pCu_0 (P := P2) (a := P 0 1) (b := P1 0 1)
  have c9 : ∀ f, f ≠ 10 → xct M4 p a 109 f = M4 109 f := fun f hf => by
    unfold xct
    rw [zwr_ne (by decide), zwr_nj hf, zwr_ne (by decide)]
  have c99 : xct M4 p a 109 10 = M4 109 10 + 1 := by
    unfold xct
    rw [zwr_ne (by decide), zwr_at]
  have cb : ∀ b, b ≠ 109 → b ≠ 115 → b ≠ 117 → xct M4 p a b = M4 b := fun b b1 b2 b3 => by
    unfold xct
    rw [zwr_n b2, zwr_n b1, zwr_n b3]
  have c5 : ∀ q, q ≠ p → xct M4 p a 115 q = M4 115 q := fun q hq => by
    unfold xct
    rw [zwr_nj hq, zwr_ne (by decide), zwr_ne (by decide)]
  have c55 : xct M4 p a 115 p = M4 109 9 := by
    unfold xct
    rw [zwr_at]
  have c6 : ∀ i, xct M4 p a 117 i = if i = P2 0 2 then a else M4 117 i := fun i => by
    unfold xct
    rw [zwr_ne (by decide), zwr_ne (by decide), zwr_u, r3]
    rfl
  have c0 := cb 110 (by decide) (by decide) (by decide)
  have c1 := cb 111 (by decide) (by decide) (by decide)
  have c2 := cb 112 (by decide) (by decide) (by decide)
  have c3 := cb 113 (by decide) (by decide) (by decide)
  have c4 := cb 114 (by decide) (by decide) (by decide)
  have c7 := cb 116 (by decide) (by decide) (by decide)
  -- the cuts noted before and in the parts
  have old : ∀ j, j < P 0 2 → M4 117 j = M 117 j := fun j hj => (y7 j (by omega)).trans ((x7 j hj).trans (s2.2.2 j hj))
  have new : ∀ j, P 0 2 ≤ j → j < P2 0 2 → a + 2 ≤ M4 117 j := fun j j0 j1 => by
    by_cases e : j < P1 0 2
    · have := x8 j j0 e
      rw [y7 j e]
      omega
    · have := y8 j (by omega) j1
      omega
  refine ⟨fun b hb => (cb b (by omega) (by omega) (by omega)).trans ((y1 b hb).trans ((x1 b hb).trans (f2 b hb))), ⟨⟨by rw [c9 11 (by decide), p0, r1], by rw [c9 9 (by decide), p1, r2], by rw [c99, p2, r3]⟩, fun i i0 i1 => ?_, fun j j0 j1 => ?_⟩, by rw [c9 8 (by decide), p1]; omega, fun q hq => ?_, fun q hq ne => ?_, ⟨?_, by rw [c55, p1, r2]⟩, fun j hj => ?_, fun j j0 j1 => ?_⟩
  · rw [p1] at i1
    have := r4 i i0 i1
    unfold rxl at this ⊢
    rw [c0, c1, c2, c3, c7, c9 8 (by decide), lb 1 (by omega) (by omega), lb 2 (by omega) (by omega), lb 3 (by omega) (by omega), lb 4 (by omega) (by omega)]
    exact this
  · rw [p2] at j1
    unfold rxc
    rw [c4, c6, l5, l6, l7, c9 8 (by decide)]
    by_cases e : j = P2 0 2
    · rw [if_pos e, if_pos e, if_pos e, if_pos e, c5 _ (by omega), c5 _ (by omega)]
      have u := y5 a (by omega) (by omega)
      exact ⟨by omega, u.1.trans x6.1, u.2.trans x6.2, y6.1, y6.2⟩
    · rw [if_neg e, if_neg e, if_neg e, if_neg e]
      have k := r5 j j0 (by omega)
      have q : M4 117 j ≠ p ∧ M4 117 j + 1 ≠ p := by
        by_cases m : j < P 0 2
        · rw [old j m]
          exact hc j j0 m
        · have := new j (by omega) (by omega)
          omega
      unfold rxc at k
      rw [c5 _ q.1, c5 _ q.2]
      exact k
  · rw [c0, c1, c2, c3]
    obtain ⟨a1, a2, a3, a4⟩ := y4 q (by omega)
    obtain ⟨b1, b2, b3, b4⟩ := x4 q (by omega)
    obtain ⟨d1, d2, d3, d4⟩ := k2 q hq
    exact ⟨a1.trans (b1.trans d1), a2.trans (b2.trans d2), a3.trans (b3.trans d3), a4.trans (b4.trans d4)⟩
  · rw [c4, c5 q ne]
    obtain ⟨a1, a2⟩ := y5 q (by omega) (by omega)
    obtain ⟨b1, b2⟩ := x5 q (by omega) (by omega)
    obtain ⟨d1, d2⟩ := q2 q hq ne
    exact ⟨a1.trans (b1.trans d1), a2.trans (b2.trans d2)⟩
  · rw [c4]
    exact (y5 p (by omega) (by omega)).1.trans ((x5 p (by omega) (by omega)).1.trans s2.2.1)
  · rw [c6, if_neg (by omega)]
    exact old j hj
  · rw [c6]
    by_cases e : j = P2 0 2
    · rw [if_pos e]
      omega
    · rw [if_neg e]
      have := new j j0 (by rw [p2] at j1; omega)
      omega
theorem xad2 {M0 : ZM} {r w1 h1 x2 y2 w2 h2 : Int} : ∃ M2, xad (xad (zwr M0 109 11 r) x y w1 h1) x2 y2 w2 h2 = M2 ∧ M2 109 8 = M0 109 8 + 2 ∧ (M2 109 9 = M0 109 9 ∧ M2 109 10 = M0 109 10 ∧ M2 109 11 = r) ∧ (∀ b, b < 109 ∨ 113 < b → M2 b = M0 b) ∧ xkd M0 M2 (M0 109 8) ∧ xpd M2 (M0 109 8) x y w1 h1 ∧ xpd M2 (M0 109 8 + 1) x2 y2 w2 h2 := by
  have n8 : zwr M0 109 11 r 109 8 = M0 109 8 := zwr_nj (by decide)
  obtain ⟨a1, a2, a3, a4, a5⟩ := xad_0 (M := zwr M0 109 11 r) (x := x) (y := y) (w := w1) (h := h1)
  obtain ⟨b1, b2, b3, b4, b5⟩ := xad_0 (M := xad (zwr M0 109 11 r) x y w1 h1) (x := x2) (y := y2) (w := w2) (h := h2)
  refine ⟨_, rfl, by rw [b1, a1, n8]; omega, ⟨?_, ?_, ?_⟩, fun b hb => ?_, fun q hq => ?_, ?_, ?_⟩
  · rw [b2 9 (by decide), a2 9 (by decide), zwr_nj (by decide)]
  · rw [b2 10 (by decide), a2 10 (by decide), zwr_nj (by decide)]
  · rw [b2 11 (by decide), a2 11 (by decide), zwr_at]
  · rw [b3 b hb, a3 b hb, zwr_n (by omega)]
  · obtain ⟨k1, k2, k3, k4⟩ := b4 q (by omega)
    obtain ⟨l1, l2, l3, l4⟩ := a4 q (by omega)
    rw [zwr_n (by decide)] at l1 l2 l3 l4
    exact ⟨k1.trans l1, k2.trans l2, k3.trans l3, k4.trans l4⟩
  · obtain ⟨k1, k2, k3, k4⟩ := b4 (M0 109 8) (by omega)
    rw [n8] at a5
    obtain ⟨l1, l2, l3, l4⟩ := a5
    exact ⟨k1.trans l1, k2.trans l2, k3.trans l3, k4.trans l4⟩
  · rw [a1, n8] at b5
    exact b5
theorem rx_2 {M2 : ZM} {r : Int} (k : rx M P) (h8 : M 109 8 ≤ M2 109 8) (h9 : M2 109 9 = M 109 9 ∧ M2 109 10 = M 109 10 ∧ M2 109 11 = r) (hb : ∀ b, b < 109 ∨ 113 < b → M2 b = M b) (kd : xkd M M2 (M 109 8)) : rx M2 (zwr P 0 0 r) := by
  obtain ⟨⟨k1, k2, k3⟩, k4, k5⟩ := k
  have z : ∀ b, b ≠ 0 → zwr P 0 0 r b = P b := fun b h => zwr_n h
  have z1 : zwr P 0 0 r 0 1 = P 0 1 := zwr_nj (by decide)
  have z2 : zwr P 0 0 r 0 2 = P 0 2 := zwr_nj (by decide)
  refine ⟨⟨by rw [h9.2.2, zwr_at], by rw [h9.1, k2, z1], by rw [h9.2.1, k3, z2]⟩, fun i i0 i1 => ?_, fun j j0 j1 => ?_⟩
  · rw [z1] at i1
    obtain ⟨a, b, c, e, f⟩ := k4 i i0 i1
    obtain ⟨l1, l2, l3, l4⟩ := kd (M 116 i) a.2
    unfold rxl
    rw [hb 116 (by omega), z 1 (by decide), z 2 (by decide), z 3 (by decide), z 4 (by decide), l1, l2, l3, l4]
    exact ⟨by omega, b, c, e, f⟩
  · rw [z2] at j1
    have := k5 j j0 j1
    unfold rxc at this ⊢
    rw [hb 114 (by omega), hb 115 (by omega), hb 117 (by omega), z 5 (by decide), z 6 (by decide), z 7 (by decide)]
    exact ⟨by omega, this.2⟩
theorem rx_p {v : Int} (k : rx M P) (hc : ∀ j, 0 ≤ j → j < P 0 2 → M 117 j ≠ p ∧ M 117 j + 1 ≠ p) : rx (zwr M 114 p v) P := by
  obtain ⟨⟨k1, k2, k3⟩, k4, k5⟩ := k
  refine ⟨⟨by rw [zwr_ne (by decide), k1], by rw [zwr_ne (by decide), k2], by rw [zwr_ne (by decide), k3]⟩, fun i i0 i1 => ?_, fun j j0 j1 => ?_⟩
  · have := k4 i i0 i1
    unfold rxl at this ⊢
    rw [zwr_n (by decide), zwr_n (by decide), zwr_n (by decide), zwr_n (by decide), zwr_n (by decide), zwr_n (by decide)]
    exact this
  · have := k5 j j0 j1
    have q := hc j j0 j1
    unfold rxc at this ⊢
    rw [zwr_n (show (117 : Nat) ≠ 114 by decide), zwr_n (show (115 : Nat) ≠ 114 by decide), zwr_n (show (109 : Nat) ≠ 114 by decide), zwr_nj q.1, zwr_nj q.2]
    exact this
theorem xpc_p {M' P' : ZM} {v : Int} (k : xpc (zwr M 114 p v) M' P P' p) : xpc M M' P P' p := by
  obtain ⟨k1, k2, k3, k4, k5, k6, k7, k8⟩ := k
  rw [zwr_ne (by decide)] at k3 k4 k5 k8
  refine ⟨frr_t (frr_w frr_r (by decide) (by decide)) k1, k2, k3, fun q hq => ?_, fun q hq ne => ?_, k6, fun j hj => ?_, k8⟩
  · have := k4 q hq
    rw [zwr_n (by decide), zwr_n (by decide), zwr_n (by decide), zwr_n (by decide)] at this
    exact this
  · have := k5 q hq ne
    rw [zwr_nj ne, zwr_n (by decide)] at this
    exact this
  · rw [k7 j hj, zwr_n (by decide)]
theorem xpc_e {F : ZM → Prop} {P' : ZM} {v : Int} (k : ∃ M', F M' ∧ xpc (zwr M 114 p v) M' P P' p) : ∃ M', F M' ∧ xpc M M' P P' p := by
  obtain ⟨M', k1, k2⟩ := k
  exact ⟨M', k1, xpc_p k2⟩
theorem x_part (k : Nat) : ∀ (x y w h p : Int) (M P : ZM), k ≤ 5 → rx M P → (0 ≤ p ∧ p < M 109 8) → xpd M p x y w h → (∀ j, 0 ≤ j → j < P 0 2 → M 117 j ≠ p ∧ M 117 j + 1 ≠ p) → (5 ≤ w ∧ w ≤ 24) → (5 ≤ h ∧ h ≤ 24) → (0 ≤ x ∧ x + w ≤ 24) → (0 ≤ y ∧ y + h ≤ 24) → (0 ≤ P 0 1 ∧ P 0 1 + cp w h ≤ 12) → (0 ≤ P 0 2 ∧ P 0 2 + cp w h ≤ 13) → M 109 8 + 2 * cp w h ≤ 25 → ∃ M', E (d + k + 4) 4 [zR 109, zI p, zI k] M = Rt none M' ∧ xpc M M' P (pl k x y w h P) p := by
  induction k with
  | zero =>
    intro x y w h p M P _ r hp hd hc hw hh hx hy hn hm hq
    have := cp_1 hw.1 hh.1
    have r2 := r.1.2.1
    refine ⟨xlf (zwr M 114 p (M 109 9)) p, ?_, ?_⟩
    · show E (d + 3 + 1) 4 [zR 109, zI p, zI 0] M = _
      rw [en_4, q_4_0, if_neg (by omega), if_pos (by omega), if_pos (by omega), if_pos (by decide), x_uncut (by rw [zwr_ne (by decide)]; omega), Cb_V, q_4_45, q_4_71, if_pos (by omega), zwr_at]
      rfl
    · refine xpc_p (v := M 109 9) (xlf_c (by rw [zwr_ne (by decide)]; exact hp) ?_ (rx_p r hc) (by rw [zwr_at, r2]) (fun j j0 j1 => by rw [zwr_n (by decide)]; exact hc j j0 j1))
      unfold xpd
      rw [zwr_n (by decide), zwr_n (by decide), zwr_n (by decide), zwr_n (by decide)]
      exact hd
  | succ k ih =>
    intro x y w h p M P hk r hp hd hc hw hh hx hy hn hm hq
    have c1 := cp_1 hw.1 hh.1
    have ev : ((k + 1 : Nat) : Int) = (k : Int) + 1 := rfl
    have r2 := r.1.2.1
    have zk : zw ((k : Int) + 1 - 1) = (k : Int) := by rw [zw_id (by omega)]; omega
    rw [show d + (k + 1) + 4 = (d + k + 4) + 1 by omega, ev]
    show ∃ M', E (d + k + 4 + 1) 4 [zR 109, zI p, zI ((k : Int) + 1)] M = Rt none M' ∧ xpc M M' P (if w < 10 ∧ h < 10 then pLf x y w h P else pl3 (pl k) x y w h (pZ w h (P 0 0)) (pS w h (P 0 0)) (zwr P 0 0 (pR w h (P 0 0)))) p
    rw [en_4, q_4_0, if_neg (by omega), if_pos (by omega), if_pos (by omega), if_neg (by omega)]
    have hd0 : xpd (zwr M 114 p (M 109 9)) p x y w h := by
      unfold xpd
      rw [zwr_n (by decide), zwr_n (by decide), zwr_n (by decide), zwr_n (by decide)]
      exact hd
    have r0 : rx (zwr M 114 p (M 109 9)) P := rx_p r hc
    have m0 : (zwr M 114 p (M 109 9)) 114 p = P 0 1 := by rw [zwr_at, r2]
    have hc0 : ∀ j, 0 ≤ j → j < P 0 2 → (zwr M 114 p (M 109 9)) 117 j ≠ p ∧ (zwr M 114 p (M 109 9)) 117 j + 1 ≠ p := fun j j0 j1 => by rw [zwr_n (by decide)]; exact hc j j0 j1
    have hp0 : 0 ≤ p ∧ p < (zwr M 114 p (M 109 9)) 109 8 := by rw [zwr_ne (by decide)]; exact hp
    have hq0 : (zwr M 114 p (M 109 9)) 109 8 + 2 * cp w h ≤ 25 := by rw [zwr_ne (by decide)]; exact hq
    refine xpc_e (v := M 109 9) ?_
    generalize zwr M 114 p (M 109 9) = M0 at *
    have q9 := r0.1.2.1
    have q11 := r0.1.1
    by_cases c : w < 10 ∧ h < 10
    · refine ⟨xlf M0 p, ?_, by rw [if_pos c]; exact xlf_c hp0 hd0 r0 m0 hc0⟩
      rw [x_cut0 (d := d + k + 1) (by omega) hd0 c, Cb_I, q_4_30, if_neg (by decide), x_uncut (by omega), Cb_V, q_4_45, q_4_71, if_pos (by omega), zwr_at]
      rfl
    · rw [if_neg c, x_cut1 (d := d + k + 1) hw hh (by omega) (by omega) (by omega) hd0 c ?_, Cb_I, q_4_30, if_pos (by omega), q11]
      rotate_left
      · have zr := pZ_rg (r := P 0 0) c
        rcases zr with ⟨s, z1, z2, z3⟩ | ⟨s, z1, z2, z3⟩
        · have cs := cp_s (a := 5) (b := w - 5) (w := w) (h := h) (by omega) (by omega) (by omega) (by omega)
          have ca := cp_1 (w := 5) (h := h) (by omega) (by omega)
          have cb := cp_1 (w := w - 5) (h := h) (by omega) (by omega)
          omega
        · have cs := cp_s (a := 5) (b := h - 5) (w := h) (h := w) (by omega) (by omega) (by omega) (by omega)
          rw [cp_c 5 w, cp_c (h - 5) w, cp_c h w] at cs
          have ca := cp_1 (w := w) (h := 5) (by omega) (by omega)
          have cb := cp_1 (w := w) (h := h - 5) (by omega) (by omega)
          omega
      unfold pl3
      have zr := pZ_rg (r := P 0 0) c
      generalize pZ w h (P 0 0) = z at *
      -- both ways at once: the two parts
      have both : ∀ w1 h1 x2 y2 w2 h2 : Int, (5 ≤ w1 ∧ w1 ≤ w) → (5 ≤ h1 ∧ h1 ≤ h) → (5 ≤ w2 ∧ w2 ≤ w) → (5 ≤ h2 ∧ h2 ≤ h) → (x ≤ x2 ∧ x2 + w2 ≤ x + w) → (y ≤ y2 ∧ y2 + h2 ≤ y + h) → cp w1 h1 + cp w2 h2 ≤ cp w h → ∃ M', (Cb (E (d + k + 4) 4 [zR 109, zI (M0 109 8), zI (zw ((k : Int) + 1 - 1))] (xad (xad (zwr M0 109 11 (pR w h (P 0 0))) x y w1 h1) x2 y2 w2 h2)) (fun v h => zrun (zevl (d + k + 4)) 4 56 [zR 109, zI p, zI ((k : Int) + 1), zI (M0 109 8)] (v.toList ++ []) h)) = Rt none M' ∧ xpc M0 M' P (pCu ((zwr P 0 0 (pR w h (P 0 0))) 0 1) (pl k x y w1 h1 (zwr P 0 0 (pR w h (P 0 0))) 0 1) (pl k x2 y2 w2 h2 (pl k x y w1 h1 (zwr P 0 0 (pR w h (P 0 0)))))) p := by
        intro w1 h1 x2 y2 w2 h2 b1 b2 b3 b4 b5 b6 cs
        have ca := cp_1 b1.1 b2.1
        have cb := cp_1 b3.1 b4.1
        obtain ⟨M2, e2, a8, a9, ab, ak, ad1, ad2⟩ := xad2 (M0 := M0) (x := x) (y := y) (r := pR w h (P 0 0)) (w1 := w1) (h1 := h1) (x2 := x2) (y2 := y2) (w2 := w2) (h2 := h2)
        have rr := rx_2 (M2 := M2) r0 (by omega) a9 ab ak
        have n1 : (zwr P 0 0 (pR w h (P 0 0))) 0 1 = P 0 1 := zwr_nj (by decide)
        have n2 : (zwr P 0 0 (pR w h (P 0 0))) 0 2 = P 0 2 := zwr_nj (by decide)
        have m17 : M2 117 = M0 117 := ab 117 (by omega)
        rw [e2, zk]
        obtain ⟨M3, e3, c3⟩ := ih x y w1 h1 (M0 109 8) M2 _ (by omega) rr (by omega) ad1 (fun j j0 j1 => by
          rw [n2] at j1
          have := (r0.2.2 j j0 j1).1
          rw [m17]
          omega) (by omega) (by omega) (by omega) (by omega) (by omega) (by omega) (by omega)
        obtain ⟨s1, s2, -⟩ := pl_sp k x y w1 h1 (zwr P 0 0 (pR w h (P 0 0))) b1.1 b2.1
        rw [n1] at s1 s2 ⊢
        rw [n2] at s2
        have c3' := c3
        generalize pl k x y w1 h1 (zwr P 0 0 (pR w h (P 0 0))) = P1 at *
        obtain ⟨t1, t2, t3, t4, t5, t6, t7, t8⟩ := c3'
        rw [n1] at t3
        rw [n2] at t7 t8
        obtain ⟨M4, e4, c4⟩ := ih x2 y2 w2 h2 (M0 109 8 + 1) M3 P1 (by omega) t2 (by omega) (by
          obtain ⟨u1, u2, u3, u4⟩ := t4 (M0 109 8 + 1) (by omega)
          unfold xpd
          rw [u1, u2, u3, u4]
          exact ad2) (fun j j0 j1 => by
          by_cases m : j < P 0 2
          · have := (r0.2.2 j j0 m).1
            rw [t7 j m, m17]
            omega
          · have := t8 j (by omega) j1
            omega) (by omega) (by omega) (by omega) (by omega) (by omega) (by omega) (by omega)
        obtain ⟨v1, v2, -⟩ := pl_sp k x2 y2 w2 h2 P1 b3.1 b4.1
        have c4' := c4
        generalize pl k x2 y2 w2 h2 P1 = P2 at *
        have r4 := c4'.2.1.1
        refine ⟨xct M4 p (M0 109 8), ?_, ?_⟩
        · rw [e3, Cb_V, q_4_56, zk, zw_id (x := M0 109 8 + 1) (by omega), e4, Cb_V, q_4_66, x_noteCut (by omega), Cb_V, q_4_71, if_pos (by omega), zwr_nj (show (9 : Int) ≠ 10 by decide), zwr_ne (show (109 : Nat) ≠ 117 by decide)]
          rfl
        · exact xct_c (v := pR w h (P 0 0)) hp0 (by omega) r0 hc0 rfl (fun b hb => ab b (by omega)) ak (fun q _ _ => by rw [ab 114 (by omega), ab 115 (by omega)]; exact ⟨rfl, rfl⟩) ⟨a8, by rw [ab 114 (by omega), m0], fun j _ => by rw [m17]⟩ c3 c4 (by omega) (by omega)
      rcases zr with ⟨s, z1, z2, z3⟩ | ⟨s, z1, z2, z3⟩
      · have cs := cp_s (a := z) (b := w - z) (w := w) (h := h) (by omega) (by omega) (by omega) (by omega)
        rw [s, if_pos rfl, if_pos rfl]
        exact both z h (x + z) y (w - z) h (by omega) (by omega) (by omega) (by omega) (by omega) (by omega) cs
      · have cs := cp_s (a := z) (b := h - z) (w := h) (h := w) (by omega) (by omega) (by omega) (by omega)
        rw [cp_c z w, cp_c (h - z) w, cp_c h w] at cs
        rw [s, if_neg (show ¬ ((0 : Int) = 1) by decide), if_neg (show ¬ ((0 : Int) = 1) by decide)]
        exact both w z x (y + z) w (h - z) (by omega) (by omega) (by omega) (by omega) (by omega) (by omega) cs
end
