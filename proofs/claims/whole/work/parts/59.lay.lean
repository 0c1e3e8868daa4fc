/-! the plan of a build: the parts left uncut, the cuts and the random number, as both draw them -/
def nxr (r : Int) : Int := zw (zw (r * 1103515245) + 12345)
def drv (r n : Int) : Int := (zand (zushr r 16) 32767).tmod n
theorem drv_rg {r n : Int} (h : 0 < n) : 0 ≤ drv r n ∧ drv r n < n := by
  unfold drv
  have := zand_le (x := zushr r 16) (y := 32767) (by omega)
  exact ⟨Int.tmod_nonneg _ this.1, Int.tmod_lt_of_pos _ h⟩
def pS (w h r : Int) : Int := if 10 ≤ w then (if 10 ≤ h then (if drv (nxr r) 2 = 0 then 1 else 0) else 1) else 0
def pR (w h r : Int) : Int := if 10 ≤ w then (if 10 ≤ h then nxr (nxr r) else nxr r) else nxr r
def pZ (w h r : Int) : Int := 5 + drv (pR w h r) ((if pS w h r = 1 then w else h) - 9)
def pLf (x y w h : Int) (P : ZM) : ZM := zwr (zwr (zwr (zwr (zwr P 1 (P 0 1) x) 2 (P 0 1) y) 3 (P 0 1) w) 4 (P 0 1) h) 0 1 (P 0 1 + 1)
def pCu (a b : Int) (P : ZM) : ZM := zwr (zwr (zwr (zwr P 5 (P 0 2) a) 6 (P 0 2) b) 7 (P 0 2) (P 0 1)) 0 2 (P 0 2 + 1)
def pl3 (f : Int → Int → Int → Int → ZM → ZM) (x y w h z s : Int) (P : ZM) : ZM := if s = 1 then pCu (P 0 1) (f x y z h P 0 1) (f (x + z) y (w - z) h (f x y z h P)) else pCu (P 0 1) (f x y w z P 0 1) (f x (y + z) w (h - z) (f x y w z P))
def pl : Nat → Int → Int → Int → Int → ZM → ZM
  | 0, x, y, w, h, P => pLf x y w h P
  | k + 1, x, y, w, h, P => if w < 10 ∧ h < 10 then pLf x y w h P else pl3 (pl k) x y w h (pZ w h (P 0 0)) (pS w h (P 0 0)) (zwr P 0 0 (pR w h (P 0 0)))
def cp (w h : Int) : Int := (w / 5) * (h / 5)
theorem cp_1 {w h : Int} (hw : 5 ≤ w) (hh : 5 ≤ h) : 1 ≤ cp w h := by
  unfold cp
  have a : 1 ≤ w / 5 := by omega
  have b : 1 ≤ h / 5 := by omega
  have := Int.mul_le_mul a b (by omega) (by omega)
  omega
theorem cp_s {a b w h : Int} (ha : 0 ≤ a) (hb : 0 ≤ b) (e : a + b ≤ w) (hh : 0 ≤ h) : cp a h + cp b h ≤ cp w h := by
  unfold cp
  rw [← Int.add_mul]
  exact Int.mul_le_mul_of_nonneg_right (by omega) (by omega)
theorem cp_c (w h : Int) : cp w h = cp h w := Int.mul_comm _ _
def pin (P : ZM) (i x y w h : Int) : Prop := (5 ≤ P 3 i ∧ 5 ≤ P 4 i) ∧ (x ≤ P 1 i ∧ P 1 i + P 3 i ≤ x + w) ∧ (y ≤ P 2 i ∧ P 2 i + P 4 i ≤ y + h)
def psep (P : ZM) (i j : Int) : Prop := P 1 i + P 3 i ≤ P 1 j ∨ P 1 j + P 3 j ≤ P 1 i ∨ P 2 i + P 4 i ≤ P 2 j ∨ P 2 j + P 4 j ≤ P 2 i
def pnd (P : ZM) (j n m : Int) : Prop := n ≤ P 5 j ∧ P 5 j < P 6 j ∧ P 6 j < P 7 j ∧ P 7 j ≤ m
def psp (P P' : ZM) (x y w h : Int) : Prop := (P 0 1 < P' 0 1 ∧ P' 0 1 ≤ P 0 1 + cp w h) ∧ P' 0 2 = P 0 2 + (P' 0 1 - P 0 1) - 1 ∧ (∀ i, i < P 0 1 → P' 1 i = P 1 i ∧ P' 2 i = P 2 i ∧ P' 3 i = P 3 i ∧ P' 4 i = P 4 i) ∧ (∀ j, j < P 0 2 → P' 5 j = P 5 j ∧ P' 6 j = P 6 j ∧ P' 7 j = P 7 j) ∧ (∀ i, P 0 1 ≤ i → i < P' 0 1 → pin P' i x y w h) ∧ (∀ i j, P 0 1 ≤ i → i < j → j < P' 0 1 → psep P' i j) ∧ ∀ j, P 0 2 ≤ j → j < P' 0 2 → pnd P' j (P 0 1) (P' 0 1)
section
variable {P : ZM} {x y w h : Int}
theorem pLf_0 {x y w h : Int} : pLf x y w h P 0 0 = P 0 0 ∧ pLf x y w h P 0 1 = P 0 1 + 1 ∧ pLf x y w h P 0 2 = P 0 2 ∧ (∀ i, pLf x y w h P 1 i = if i = P 0 1 then x else P 1 i) ∧ (∀ i, pLf x y w h P 2 i = if i = P 0 1 then y else P 2 i) ∧ (∀ i, pLf x y w h P 3 i = if i = P 0 1 then w else P 3 i) ∧ (∀ i, pLf x y w h P 4 i = if i = P 0 1 then h else P 4 i) ∧ (∀ b, 5 ≤ b → pLf x y w h P b = P b) := by
  unfold pLf
  refine ⟨?_, zwr_at, ?_, fun i => ?_, fun i => ?_, fun i => ?_, fun i => ?_, fun b hb => ?_⟩
  · rw [zwr_nj (by decide), zwr_ne (by decide), zwr_ne (by decide), zwr_ne (by decide), zwr_ne (by decide)]
  · rw [zwr_nj (by decide), zwr_ne (by decide), zwr_ne (by decide), zwr_ne (by decide), zwr_ne (by decide)]
  · rw [zwr_ne (by decide), zwr_ne (by decide), zwr_ne (by decide), zwr_ne (by decide), zwr_u]
    rfl
  · rw [zwr_ne (by decide), zwr_ne (by decide), zwr_ne (by decide), zwr_u, zwr_n (by decide)]
    rfl
  · rw [zwr_ne (by decide), zwr_ne (by decide), zwr_u, zwr_n (by decide), zwr_n (by decide)]
    rfl
  · rw [zwr_ne (by decide), zwr_u, zwr_n (by decide), zwr_n (by decide), zwr_n (by decide)]
    rfl
  · rw [zwr_n (by omega), zwr_n (by omega), zwr_n (by omega), zwr_n (by omega), zwr_n (by omega)]
theorem pCu_0 {a b : Int} : pCu a b P 0 0 = P 0 0 ∧ pCu a b P 0 1 = P 0 1 ∧ pCu a b P 0 2 = P 0 2 + 1 ∧ (∀ i, pCu a b P 5 i = if i = P 0 2 then a else P 5 i) ∧ (∀ i, pCu a b P 6 i = if i = P 0 2 then b else P 6 i) ∧ (∀ i, pCu a b P 7 i = if i = P 0 2 then P 0 1 else P 7 i) ∧ (∀ b', 1 ≤ b' → b' ≤ 4 → pCu a b P b' = P b') := by
  unfold pCu
  refine ⟨?_, ?_, zwr_at, fun i => ?_, fun i => ?_, fun i => ?_, fun b h1 h2 => ?_⟩
  · rw [zwr_nj (by decide), zwr_ne (by decide), zwr_ne (by decide), zwr_ne (by decide)]
  · rw [zwr_nj (by decide), zwr_ne (by decide), zwr_ne (by decide), zwr_ne (by decide)]
  · rw [zwr_ne (by decide), zwr_ne (by decide), zwr_ne (by decide), zwr_u]
    rfl
  · rw [zwr_ne (by decide), zwr_ne (by decide), zwr_u, zwr_n (by decide)]
    rfl
  · rw [zwr_ne (by decide), zwr_u, zwr_n (by decide), zwr_n (by decide)]
    rfl
  · rw [zwr_n (by omega), zwr_n (by omega), zwr_n (by omega), zwr_n (by omega)]
theorem psp_lf (hw : 5 ≤ w) (hh : 5 ≤ h) : psp P (pLf x y w h P) x y w h := by
  obtain ⟨-, h1, h2, l1, l2, l3, l4, hb⟩ := pLf_0 (P := P) (x := x) (y := y) (w := w) (h := h)
  have c1 := cp_1 hw hh
  refine ⟨by rw [h1]; omega, by rw [h1, h2]; omega, fun i hi => ?_, fun j hj => ?_, fun i i0 i1 => ?_, fun i j i0 ij j1 => ?_, fun j j0 j1 => ?_⟩
  · rw [l1, l2, l3, l4, if_neg (by omega), if_neg (by omega), if_neg (by omega), if_neg (by omega)]
    exact ⟨rfl, rfl, rfl, rfl⟩
  · rw [hb 5 (by omega), hb 6 (by omega), hb 7 (by omega)]
    exact ⟨rfl, rfl, rfl⟩
  · rw [h1] at i1
    unfold pin
    rw [l1, l2, l3, l4, if_pos (by omega), if_pos (by omega), if_pos (by omega), if_pos (by omega)]
    omega
  · rw [h1] at j1
    omega
  · rw [h2] at j1
    omega
theorem psp_j {P1 P2 : ZM} {w1 h1 x2 y2 w2 h2 : Int} (k : psp P P1 x y w1 h1) (l : psp P1 P2 x2 y2 w2 h2) (r1 : w1 ≤ w ∧ h1 ≤ h) (r2 : x ≤ x2 ∧ x2 + w2 ≤ x + w ∧ y ≤ y2 ∧ y2 + h2 ≤ y + h) (s : x + w1 ≤ x2 ∨ y + h1 ≤ y2) (c : cp w1 h1 + cp w2 h2 ≤ cp w h) : psp P (pCu (P 0 1) (P1 0 1) P2) x y w h := by
  obtain ⟨k1, k2, k3, k4, k5, k6, k7⟩ := k
  obtain ⟨l1, l2, l3, l4, l5, l6, l7⟩ := l
  obtain ⟨-, q1, q2, q5, q6, q7, qb⟩ := pCu_0 (P := P2) (a := P 0 1) (b := P1 0 1)
  generalize hC : pCu (P 0 1) (P1 0 1) P2 = C at *
  have b1 := qb 1 (by omega) (by omega)
  have b2 := qb 2 (by omega) (by omega)
  have b3 := qb 3 (by omega) (by omega)
  have b4 := qb 4 (by omega) (by omega)
  have pi1 : ∀ i, P 0 1 ≤ i → i < P1 0 1 → pin P2 i x y w1 h1 := fun i i0 i1 => by
    have := k5 i i0 i1
    obtain ⟨e1, e2, e3, e4⟩ := l3 i i1
    unfold pin at this ⊢
    rw [e1, e2, e3, e4]
    exact this
  refine ⟨by rw [q1]; omega, by rw [q1, q2]; omega, fun i hi => ?_, fun j hj => ?_, fun i i0 i1 => ?_, fun i j i0 ij j1 => ?_, fun j j0 j1 => ?_⟩
  · rw [b1, b2, b3, b4]
    obtain ⟨e1, e2, e3, e4⟩ := l3 i (by omega)
    rw [e1, e2, e3, e4]
    exact k3 i hi
  · rw [q5, q6, q7, if_neg (by omega), if_neg (by omega), if_neg (by omega)]
    obtain ⟨e1, e2, e3⟩ := l4 j (by omega)
    rw [e1, e2, e3]
    exact k4 j hj
  · rw [q1] at i1
    unfold pin
    rw [b1, b2, b3, b4]
    by_cases m : i < P1 0 1
    · have := pi1 i i0 m
      unfold pin at this
      omega
    · have := l5 i (by omega) i1
      unfold pin at this
      omega
  · rw [q1] at j1
    unfold psep
    rw [b1, b2, b3, b4]
    by_cases m : j < P1 0 1
    · have := k6 i j i0 ij m
      obtain ⟨e1, e2, e3, e4⟩ := l3 i (by omega)
      obtain ⟨f1, f2, f3, f4⟩ := l3 j (by omega)
      unfold psep at this
      rw [e1, e2, e3, e4, f1, f2, f3, f4]
      exact this
    · by_cases m2 : i < P1 0 1
      · have a := pi1 i i0 m2
        have b := l5 j (by omega) j1
        unfold pin at a b
        omega
      · exact l6 i j (by omega) ij j1
  · rw [q2] at j1
    unfold pnd
    rw [q1, q5, q6, q7]
    by_cases e : j = P2 0 2
    · rw [if_pos e, if_pos e, if_pos e]
      omega
    · rw [if_neg e, if_neg e, if_neg e]
      by_cases m : j < P1 0 2
      · have := k7 j j0 m
        obtain ⟨e1, e2, e3⟩ := l4 j m
        unfold pnd at this
        rw [e1, e2, e3]
        omega
      · have := l7 j (by omega) (by omega)
        unfold pnd at this
        omega
theorem psp_0 {P' : ZM} {v : Int} (k : psp (zwr P 0 0 v) P' x y w h) : psp P P' x y w h := by
  unfold psp at k ⊢
  rw [zwr_nj (by decide), zwr_nj (by decide), zwr_n (by decide), zwr_n (by decide), zwr_n (by decide), zwr_n (by decide), zwr_n (by decide), zwr_n (by decide), zwr_n (by decide)] at k
  exact k
theorem pZ_rg {r : Int} (hk : ¬ (w < 10 ∧ h < 10)) : (pS w h r = 1 ∧ 10 ≤ w ∧ 5 ≤ pZ w h r ∧ pZ w h r ≤ w - 5) ∨ (pS w h r = 0 ∧ 10 ≤ h ∧ 5 ≤ pZ w h r ∧ pZ w h r ≤ h - 5) := by
  have key : (pS w h r = 1 ∧ 10 ≤ w) ∨ (pS w h r = 0 ∧ 10 ≤ h) := by
    unfold pS
    split
    · split
      · split
        · exact Or.inl ⟨rfl, by omega⟩
        · exact Or.inr ⟨rfl, by omega⟩
      · exact Or.inl ⟨rfl, by omega⟩
    · exact Or.inr ⟨rfl, by omega⟩
  unfold pZ
  rcases key with ⟨e, k⟩ | ⟨e, k⟩
  · have := drv_rg (r := pR w h r) (n := w - 9) (by omega)
    rw [e, if_pos rfl]
    omega
  · have := drv_rg (r := pR w h r) (n := h - 9) (by omega)
    rw [e, if_neg (by decide)]
    omega
end
theorem pl_sp (k : Nat) : ∀ (x y w h : Int) (P : ZM), 5 ≤ w → 5 ≤ h → psp P (pl k x y w h P) x y w h := by
  induction k with
  | zero => intro x y w h P hw hh; exact psp_lf hw hh
  | succ k ih =>
    intro x y w h P hw hh
    show psp P (if w < 10 ∧ h < 10 then pLf x y w h P else pl3 (pl k) x y w h (pZ w h (P 0 0)) (pS w h (P 0 0)) (zwr P 0 0 (pR w h (P 0 0)))) x y w h
    by_cases c : w < 10 ∧ h < 10
    · rw [if_pos c]
      exact psp_lf hw hh
    · rw [if_neg c]
      unfold pl3
      refine psp_0 (v := pR w h (P 0 0)) ?_
      rcases pZ_rg (r := P 0 0) c with ⟨e, z⟩ | ⟨e, z⟩
      · rw [if_pos e]
        exact psp_j (ih _ _ _ _ _ (by omega) hh) (ih _ _ _ _ _ (by omega) hh) (by omega) (by omega) (by omega) (cp_s (by omega) (by omega) (by omega) (by omega))
      · rw [if_neg (by omega)]
        refine psp_j (ih _ _ _ _ _ hw (by omega)) (ih _ _ _ _ _ hw (by omega)) (by omega) (by omega) (by omega) ?_
        rw [cp_c, cp_c w (h - _), cp_c w h]
        exact cp_s (by omega) (by omega) (by omega) (by omega)
