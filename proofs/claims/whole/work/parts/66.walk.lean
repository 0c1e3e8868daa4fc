/-! walks: what the class's queue and the reference's table both come to -/
def wT (t : Int → Int → Int) (nr : Int) : Prop := ∀ s r, 0 ≤ s → s < 64 * nr → 0 ≤ r → r < nr → t s r = -1 ∨ (0 ≤ t s r ∧ t s r < 64 * nr) ∧ t s r / 64 = r
def wxO (t : Int → Int → Int) (S O L : Int → Int) (n : Int) : Prop := ∀ i, 1 ≤ i → i < n → (0 ≤ O i ∧ O i < i) ∧ t (S (O i)) (S i / 64) = S i ∧ L i = L (O i) + 1
def wxL (S O : Int → Int) (n : Int) : Prop := ∀ i j, 1 ≤ i → i < j → j < n → O i < O j ∨ O i = O j ∧ S i / 64 < S j / 64
def wxC (t : Int → Int → Int) (nr : Int) (S O : Int → Int) (n : Int) : Prop := ∀ i r, 0 ≤ i → i < n → 0 ≤ r → r < nr → t (S i) r ≠ -1 → ∃ j, (0 ≤ j ∧ j < n) ∧ S j = t (S i) r ∧ (O j < i ∨ O j = i ∧ S j / 64 ≤ r)
def wxF (nr : Int) (S F : Int → Int) (n : Int) : Prop := ∀ r, 0 ≤ r → r < nr → (F r = -1 ∧ ∀ i, 0 ≤ i → i < n → S i / 64 ≠ r) ∨ (0 ≤ F r ∧ F r < n) ∧ S (F r) / 64 = r ∧ ∀ i, 0 ≤ i → i < F r → S i / 64 ≠ r
def wx (t : Int → Int → Int) (s0 nr : Int) (S O L F : Int → Int) (n : Int) : Prop := 1 ≤ n ∧ (S 0 = s0 ∧ O 0 = -1 ∧ L 0 = 0) ∧ wxO t S O L n ∧ wxL S O n ∧ wxC t nr S O n ∧ wxF nr S F n ∧ ∀ i, 0 ≤ i → i < n → 0 ≤ S i ∧ S i < 64 * nr
def wm (t : Int → Int → Int) (r0 nr : Int) (f : Int → Int) : Prop := (∀ s, 0 ≤ s → s < 64 * nr → -1 ≤ f s ∧ (f s = 0 ↔ s / 64 = r0)) ∧ (∀ s, 0 ≤ s → s < 64 * nr → 0 < f s → ∃ r, (0 ≤ r ∧ r < nr) ∧ t s r ≠ -1 ∧ f (t s r) = f s - 1) ∧ ∀ s r, 0 ≤ s → s < 64 * nr → 0 ≤ r → r < nr → t s r ≠ -1 → 0 ≤ f (t s r) → 0 ≤ f s ∧ f s ≤ f (t s r) + 1
def an (O : Int → Int) (l : Int) : Nat → Int
  | 0 => l
  | m + 1 => O (an O l m)
section
variable {t : Int → Int → Int} {s0 nr n r0 : Int} {S O L F f : Int → Int}
theorem wx_L0 (h : wx t s0 nr S O L F n) : ∀ k : Nat, ∀ i, 0 ≤ i → i < n → i ≤ k → 0 ≤ L i ∧ (1 ≤ i → 1 ≤ L i) := by
  obtain ⟨h1, ⟨h2, h3, h4⟩, h5, -⟩ := h
  intro k
  induction k with
  | zero =>
    intro i i0 i1 i2
    have e : i = 0 := by omega
    rw [e, h4]
    omega
  | succ k ih =>
    intro i i0 i1 i2
    by_cases e : i = 0
    · rw [e, h4]
      omega
    · obtain ⟨a, b, c⟩ := h5 i (by omega) i1
      have := ih (O i) a.1 (by omega) (by omega)
      omega
theorem wx_Lp (h : wx t s0 nr S O L F n) {i : Int} (i0 : 0 ≤ i) (i1 : i < n) : 0 ≤ L i ∧ (1 ≤ i → 1 ≤ L i) := wx_L0 h i.toNat i i0 i1 (by omega)
theorem wx_Om (h : wx t s0 nr S O L F n) {i j : Int} (i0 : 0 ≤ i) (ij : i ≤ j) (j1 : j < n) : O i ≤ O j := by
  obtain ⟨h1, ⟨h2, h3, h4⟩, h5, h6, -⟩ := h
  by_cases e : i = j
  · rw [e]; exact Int.le_refl _
  · by_cases z : i = 0
    · have := (h5 j (by omega) j1).1
      rw [z, h3]
      omega
    · have := h6 i j (by omega) (by omega) j1
      omega
theorem wx_Lm (h : wx t s0 nr S O L F n) : ∀ k : Nat, ∀ i j, 0 ≤ i → i ≤ j → j < n → j ≤ k → L i ≤ L j := by
  have h' := h
  obtain ⟨h1, ⟨h2, h3, h4⟩, h5, h6, -⟩ := h
  intro k
  induction k with
  | zero =>
    intro i j i0 ij j1 j2
    have e : i = j := by omega
    rw [e]; exact Int.le_refl _
  | succ k ih =>
    intro i j i0 ij j1 j2
    by_cases z : i = 0
    · have := (wx_Lp h' (i := j) (by omega) j1).1
      rw [z, h4]
      exact this
    · have a := h5 i (by omega) (by omega)
      have b := h5 j (by omega) j1
      have c := ih (O i) (O j) a.1.1 (wx_Om h' i0 ij j1) (by omega) (by omega)
      omega
theorem wx_Lmm (h : wx t s0 nr S O L F n) {i j : Int} (i0 : 0 ≤ i) (ij : i ≤ j) (j1 : j < n) : L i ≤ L j := wx_Lm h j.toNat i j i0 ij j1 (by omega)
/-- where a line can go on, a line not far behind is in the room -/
theorem wx_D (h : wx t s0 nr S O L F n) (m : wm t r0 nr f) (k : Nat) : ∀ i, 0 ≤ i → i < n → f (S i) = k → ∃ j, (0 ≤ j ∧ j < n) ∧ S j / 64 = r0 ∧ L j ≤ L i + k := by
  have h' := h
  obtain ⟨h1, ⟨h2, h3, h4⟩, h5, h6, h7, h8, h9⟩ := h
  obtain ⟨m1, m2, m3⟩ := m
  induction k with
  | zero =>
    intro i i0 i1 e
    have s := h9 i i0 i1
    exact ⟨i, ⟨i0, i1⟩, (m1 _ s.1 s.2).2.1 e, by omega⟩
  | succ k ih =>
    intro i i0 i1 e
    have s := h9 i i0 i1
    obtain ⟨r, r1, r2, r3⟩ := m2 _ s.1 s.2 (by omega)
    obtain ⟨j, j1, j2, j3⟩ := h7 i r i0 i1 r1.1 r1.2 r2
    obtain ⟨q, q1, q2, q3⟩ := ih j j1.1 j1.2 (by rw [j2, r3]; omega)
    refine ⟨q, q1, q2, ?_⟩
    by_cases z : j = 0
    · have := (wx_Lp h' i0 i1).1
      rw [z, h4] at q3
      omega
    · have a := h5 j (by omega) j1.2
      have := wx_Lmm h' (i := O j) (j := i) a.1.1 (by omega) i1
      omega
/-- the lines back from the first line in the room -/
theorem wx_an (h : wx t s0 nr S O L F n) (hr : 0 ≤ r0 ∧ r0 < nr) (hF : F r0 ≠ -1) (m : Nat) : (m : Int) ≤ L (F r0) → (0 ≤ an O (F r0) m ∧ an O (F r0) m < n) ∧ L (an O (F r0) m) = L (F r0) - m := by
  have h' := h
  obtain ⟨h1, ⟨h2, h3, h4⟩, h5, h6, h7, h8, h9⟩ := h
  have f0 := (h8 r0 hr.1 hr.2).resolve_left (fun z => hF z.1)
  induction m with
  | zero => exact fun _ => ⟨f0.1, by show L (F r0) = _; omega⟩
  | succ m ih =>
    intro hm
    obtain ⟨a, b⟩ := ih (by omega)
    have z : an O (F r0) m ≠ 0 := by
      intro e
      rw [e, h4] at b
      omega
    have c := h5 _ (show 1 ≤ an O (F r0) m by omega) a.2
    show (0 ≤ O (an O (F r0) m) ∧ O (an O (F r0) m) < n) ∧ L (O (an O (F r0) m)) = _
    omega
theorem wx_pos (h : wx t s0 nr S O L F n) (hr : 0 ≤ r0 ∧ r0 < nr) (hF : F r0 ≠ -1) {m : Nat} (hm : (m : Int) < L (F r0)) : 1 ≤ an O (F r0) m ∧ an O (F r0) m < n := by
  obtain ⟨a, b⟩ := wx_an h hr hF m (by omega)
  have h4 := h.2.1.2.2
  have z : an O (F r0) m ≠ 0 := by
    intro e
    rw [e, h4] at b
    omega
  omega
theorem wx_f (h : wx t s0 nr S O L F n) (w : wm t r0 nr f) (hr : 0 ≤ r0 ∧ r0 < nr) (hF : F r0 ≠ -1) (m : Nat) : (m : Int) ≤ L (F r0) → f (S (an O (F r0) m)) = m := by
  have h' := h
  obtain ⟨h1, ⟨h2, h3, h4⟩, h5, h6, h7, h8, h9⟩ := h
  have w' := w
  obtain ⟨m1, m2, m3⟩ := w
  have f0 := (h8 r0 hr.1 hr.2).resolve_left (fun z => hF z.1)
  have up : (m : Int) ≤ L (F r0) → 0 ≤ f (S (an O (F r0) m)) ∧ f (S (an O (F r0) m)) ≤ m := by
    induction m with
    | zero =>
      intro _
      have s := h9 _ f0.1.1 f0.1.2
      have := (m1 _ s.1 s.2).2.2 f0.2.1
      show 0 ≤ f (S (F r0)) ∧ f (S (F r0)) ≤ 0
      omega
    | succ m ih =>
      intro hm
      have p := wx_pos h' hr hF (m := m) (by omega)
      obtain ⟨a, b, c⟩ := h5 _ p.1 p.2
      have i := ih (by omega)
      have s := h9 (O (an O (F r0) m)) a.1 (by omega)
      have s2 := h9 (an O (F r0) m) (by omega) p.2
      have q := m3 _ (S (an O (F r0) m) / 64) s.1 s.2 (by omega) (by omega) (by rw [b]; omega) (by rw [b]; exact i.1)
      rw [b] at q
      show 0 ≤ f (S (O (an O (F r0) m))) ∧ f (S (O (an O (F r0) m))) ≤ ((m + 1 : Nat) : Int)
      omega
  intro hm
  have u := up hm
  obtain ⟨a, b⟩ := wx_an h' hr hF m hm
  obtain ⟨j, j1, j2, j3⟩ := wx_D h' w' (f (S (an O (F r0) m))).toNat _ a.1 a.2 (by omega)
  have nf : F r0 ≤ j := by
    by_cases z : j < F r0
    · exact absurd j2 (f0.2.2 j j1.1 z)
    · omega
  have := wx_Lmm h' f0.1.1 nf j1.2
  omega
theorem wx_no (h : wx t s0 nr S O L F n) (w : wm t r0 nr f) (hr : 0 ≤ r0 ∧ r0 < nr) (hF : F r0 = -1) : f s0 = -1 := by
  have h' := h
  obtain ⟨h1, ⟨h2, h3, h4⟩, h5, h6, h7, h8, h9⟩ := h
  have f0 := (h8 r0 hr.1 hr.2).resolve_right (fun z => by omega)
  have s := h9 0 (by omega) (by omega)
  have m1 := (w.1 _ s.1 s.2).1
  rw [h2] at m1
  by_cases z : f s0 = -1
  · exact z
  · obtain ⟨j, j1, j2, -⟩ := wx_D h' w (f s0).toNat 0 (by omega) (by omega) (by rw [h2]; omega)
    exact absurd j2 (f0.2 j j1.1 j1.2)
theorem wx_root (h : wx t s0 nr S O L F n) (hr : 0 ≤ r0 ∧ r0 < nr) (hF : F r0 ≠ -1) : an O (F r0) (L (F r0)).toNat = 0 := by
  have h' := h
  have f0 := (h.2.2.2.2.2.1 r0 hr.1 hr.2).resolve_left (fun z => hF z.1)
  have l := (wx_Lp h f0.1.1 f0.1.2).1
  obtain ⟨a, b⟩ := wx_an h hr hF (L (F r0)).toNat (by omega)
  have := (wx_Lp h' a.1 a.2).2
  omega
theorem wx_len (h : wx t s0 nr S O L F n) (w : wm t r0 nr f) (hr : 0 ≤ r0 ∧ r0 < nr) (hF : F r0 ≠ -1) : f s0 = L (F r0) := by
  have f0 := (h.2.2.2.2.2.1 r0 hr.1 hr.2).resolve_left (fun z => hF z.1)
  have l := (wx_Lp h f0.1.1 f0.1.2).1
  have a := wx_f h w hr hF (L (F r0)).toNat (by omega)
  rw [wx_root h hr hF, h.2.1.1] at a
  omega
/-- a line before one on the way would make an earlier line in the room -/
theorem wx_G (h : wx t s0 nr S O L F n) (w : wm t r0 nr f) (hr : 0 ≤ r0 ∧ r0 < nr) (hF : F r0 ≠ -1) (m : Nat) : (m : Int) ≤ L (F r0) → ∀ j, 0 ≤ j → j < an O (F r0) m → f (S j) ≠ m := by
  have h' := h
  obtain ⟨h1, ⟨h2, h3, h4⟩, h5, h6, h7, h8, h9⟩ := h
  have f0 := (h8 r0 hr.1 hr.2).resolve_left (fun z => hF z.1)
  obtain ⟨m1, m2, m3⟩ := w
  induction m with
  | zero =>
    intro _ j j0 j1 e
    have j1 : j < F r0 := j1
    have s := h9 j j0 (by omega)
    exact f0.2.2 j j0 j1 ((m1 _ s.1 s.2).2.1 e)
  | succ m ih =>
    intro hm j j0 j1 e
    have p := wx_pos h' hr hF (m := m) (by omega)
    have j1 : j < O (an O (F r0) m) := j1
    obtain ⟨a, b, c⟩ := h5 _ p.1 p.2
    have s := h9 j j0 (by omega)
    obtain ⟨r, r1, r2, r3⟩ := m2 _ s.1 s.2 (by omega)
    obtain ⟨q, q1, q2, q3⟩ := h7 j r j0 (by omega) r1.1 r1.2 r2
    refine ih (by omega) q q1.1 ?_ (by rw [q2, r3, e]; omega)
    by_cases z : q < an O (F r0) m
    · exact z
    · have := wx_Om h' (i := an O (F r0) m) (j := q) (by omega) (by omega) q1.2
      omega
/-- the way of the class is that of the least rooms -/
theorem wx_least (h : wx t s0 nr S O L F n) (w : wm t r0 nr f) (hr : 0 ≤ r0 ∧ r0 < nr) (hF : F r0 ≠ -1) {m : Nat} (hm : (m : Int) < L (F r0)) : (0 ≤ S (an O (F r0) m) / 64 ∧ S (an O (F r0) m) / 64 < nr) ∧ t (S (an O (F r0) (m + 1))) (S (an O (F r0) m) / 64) = S (an O (F r0) m) ∧ ∀ r, 0 ≤ r → r < S (an O (F r0) m) / 64 → ¬ (t (S (an O (F r0) (m + 1))) r ≠ -1 ∧ f (t (S (an O (F r0) (m + 1))) r) = m) := by
  have h' := h
  obtain ⟨h1, ⟨h2, h3, h4⟩, h5, h6, h7, h8, h9⟩ := h
  have p := wx_pos h' hr hF hm
  obtain ⟨a, b, c⟩ := h5 _ p.1 p.2
  have s := h9 (an O (F r0) m) (by omega) p.2
  refine ⟨by omega, b, fun r r0' r1 k => ?_⟩
  obtain ⟨k1, k2⟩ := k
  obtain ⟨q, q1, q2, q3⟩ := h7 (an O (F r0) (m + 1)) r a.1 (by show O _ < n; omega) r0' (by omega) k1
  have q3 : O q < O (an O (F r0) m) ∨ O q = O (an O (F r0) m) ∧ S q / 64 ≤ r := q3
  refine wx_G h' w hr hF m (by omega) q q1.1 ?_ (by rw [q2]; exact k2)
  by_cases z : q < an O (F r0) m
  · exact z
  · by_cases e : q = an O (F r0) m
    · rw [e] at q3
      omega
    · have := h6 (an O (F r0) m) q p.1 (by omega) q1.2
      omega
end
