/-! numbers of bits, signs; far sides, groups, bridges -/
def nA (n : Nat) : Nat := n - ((n >>> 1) &&& 1431655765)
def nB (a : Nat) : Nat := (a &&& 858993459) + ((a >>> 2) &&& 858993459)
def nC (b : Nat) : Nat := (b + (b >>> 4)) &&& 252645135
def nD (c : Nat) : Nat := c + (c >>> 8)
def nE (c : Nat) : Nat := (c + (c >>> 16)) &&& 63
def nP (n : Nat) : Nat := (List.range 12).foldl (fun a i => a + (n >>> i) % 2) 0
theorem f64 {P : Nat → Prop} (h : ∀ i : Fin 64, ∀ j : Fin 64, P (64 * (i : Nat) + (j : Nat))) (n : Nat) (hn : n < 4096) : P n := by
  have k := h ⟨n / 64, by omega⟩ ⟨n % 64, by omega⟩
  dsimp only at k
  rw [show 64 * (n / 64) + n % 64 = n by omega] at k
  exact k
theorem hA : ∀ n : Nat, n < 4096 → zw ((n : Int) - zand (zushr (n : Int) 1) 1431655765) = ((nA n : Nat) : Int) ∧ nA n < 4096 := f64 (by decide +kernel)
theorem hB : ∀ n : Nat, n < 4096 → zw (zand (n : Int) 858993459 + zand (zushr (n : Int) 2) 858993459) = ((nB n : Nat) : Int) ∧ nB n < 4096 := f64 (by decide +kernel)
theorem hC : ∀ n : Nat, n < 4096 → zand (zw ((n : Int) + zushr (n : Int) 4)) 252645135 = ((nC n : Nat) : Int) ∧ nC n < 3900 := f64 (by decide +kernel)
theorem hD : ∀ n : Nat, n < 4096 → zw ((n : Int) + zushr (n : Int) 8) = ((nD n : Nat) : Int) ∧ (n < 3900 → nD n < 4096) := f64 (by decide +kernel)
theorem hE : ∀ n : Nat, n < 4096 → zand (zw ((n : Int) + zushr (n : Int) 16)) 63 = ((nE n : Nat) : Int) := f64 (by decide +kernel)
theorem hP : ∀ n : Nat, n < 4096 → nE (nD (nC (nB (nA n)))) = nP n := f64 (by decide +kernel)
theorem hS : ∀ i : Fin 64, zor (zshr ((i : Nat) - 32 : Int) 31) (zushr (zw (-((i : Nat) - 32 : Int))) 31) = (if ((i : Nat) : Int) < 32 then -1 else if ((i : Nat) : Int) = 32 then 0 else 1) := by decide +kernel
def sg_of (x : Int) : Int := if x < 0 then -1 else if x = 0 then 0 else 1
section
variable {d : Nat} {M : ZM} {g : Int → Int}
theorem x_signum {x : Int} (h : -32 ≤ x ∧ x < 32) : E (d + 1) 250 [zI x] M = Rt (some (zI (sg_of x))) M := by
  rw [en_250, q_250_0]
  have k := hS ⟨(x + 32).toNat, by omega⟩
  dsimp only at k
  rw [show (((x + 32).toNat : Nat) : Int) - 32 = x by omega] at k
  rw [k]
  refine Rt_cg ?_
  unfold sg_of
  by_cases h1 : x < 0
  · rw [if_pos h1, if_pos (by omega)]
  · rw [if_neg h1, if_neg (by omega)]
    by_cases h2 : x = 0
    · rw [if_pos h2, if_pos (by omega)]
    · rw [if_neg h2, if_neg (by omega)]
theorem x_bitCount {x : Int} {p : Int → Prop} (h : ST x p) (hp : ∀ r, p r → r < 12) : E (d + 1) 249 [zI x] M = Rt (some (zI (cn p 12))) M := by
  obtain ⟨n, h1, h2, h3⟩ := h
  have hn : n < 4096 := by
    refine Nat.lt_of_not_le fun q => ?_
    obtain ⟨i, hi, hb⟩ := Nat.exists_ge_and_testBit_of_ge_two_pow (n := 12) (by simpa using q)
    by_cases k : i < 30
    · have := hp _ ((h3 i k).1 hb)
      omega
    · rw [Nat.testBit_lt_two_pow (Nat.lt_of_lt_of_le h2 (Nat.pow_le_pow_right (by decide) (by omega)))] at hb
      exact absurd hb (by decide)
  subst h1
  have kA := hA n hn
  have kB := hB _ kA.2
  have kC := hC _ kB.2
  have kD := hD _ (show nC (nB (nA n)) < 4096 by omega)
  have kE := hE _ (kD.2 kC.2)
  rw [en_249, q_249_0, kA.1, kB.1, kC.1, kD.1, kE, hP n hn]
  refine Rt_cg ?_
  have bit : ∀ i : Nat, i < 12 → (((n >>> i) % 2 : Nat) : Int) = bI (p i) := by
    intro i hi
    have t : n.testBit i = decide (n >>> i % 2 = 1) := by
      rw [Nat.testBit_eq_decide_div_mod_eq, Nat.shiftRight_eq_div_pow]
    have k := h3 i (by omega)
    generalize n >>> i = z at t ⊢
    by_cases hq : p i
    · rw [bI_t hq]
      rw [k.2 hq] at t
      have := of_decide_eq_true t.symm
      omega
    · rw [bI_f hq]
      have : ¬ (z % 2 = 1) := fun q => hq (k.1 (t.trans (decide_eq_true q)))
      omega
  show ((((((((((((((0 + (n >>> 0) % 2) + (n >>> 1) % 2) + (n >>> 2) % 2) + (n >>> 3) % 2) + (n >>> 4) % 2) + (n >>> 5) % 2) + (n >>> 6) % 2) + (n >>> 7) % 2) + (n >>> 8) % 2) + (n >>> 9) % 2) + (n >>> 10) % 2) + (n >>> 11) % 2 : Nat)) : Int) = cN p 12
  have u : cN p 12 = 0 + bI (p (0 : Nat)) + bI (p (1 : Nat)) + bI (p (2 : Nat)) + bI (p (3 : Nat)) + bI (p (4 : Nat)) + bI (p (5 : Nat)) + bI (p (6 : Nat)) + bI (p (7 : Nat)) + bI (p (8 : Nat)) + bI (p (9 : Nat)) + bI (p (10 : Nat)) + bI (p (11 : Nat)) := rfl
  rw [u, ← bit 0 (by decide), ← bit 1 (by decide), ← bit 2 (by decide), ← bit 3 (by decide), ← bit 4 (by decide), ← bit 5 (by decide), ← bit 6 (by decide), ← bit 7 (by decide), ← bit 8 (by decide), ← bit 9 (by decide), ← bit 10 (by decide), ← bit 11 (by decide)]
  simp only [Int.natCast_add]
  rfl
theorem clo_cg {wo : Int} {kg lg kg' lg' F : Int → Prop} (h : ∀ S c, 0 ≤ c → c < g 121 → (opn g S kg lg c ↔ opn g S kg' lg' c)) (r : Int) : clo g wo kg lg F r ↔ clo g wo kg' lg' F r := by
  constructor
  · intro k S s1 s2
    exact k S s1 (fun c c0 c1 c2 c3 => s2 c c0 c1 c2 ((h S c c0 c1).1 c3))
  · intro k S s1 s2
    exact k S s1 (fun c c0 c1 c2 c3 => s2 c c0 c1 c2 ((h S c c0 c1).2 c3))
theorem x_spreadAll {x wo o : Int} (hw : WF g) (hd : dgr M 1 g) (ho : 0 ≤ o ∧ o < g 120) (hx : ST x (fun r => r = o)) : ∃ v, E (d + 3) 75 [zR 1, zI x, zI 0, zI 63, zI wo] M = Rt (some (zI v)) M ∧ ST v (rea g wo o) := by
  obtain ⟨v, e, h⟩ := x_spread (d := d) (wo := wo) hw hd (F := fun r => r = o) (by rintro r rfl; exact ho) (fun _ => ⟨o, rfl⟩) hx ST_0 ST_63
  refine ⟨v, e, ST_cg h (fun r _ _ => clo_cg (fun S c c0 c1 => ⟨fun _ => opn_y, fun _ => Or.inr (Or.inr ?_)⟩) r)⟩
  have := wf_l hw ⟨c0, c1⟩
  show gL g c < 6
  omega
theorem rea_rg {wo o r : Int} (hw : WF g) (ho : 0 ≤ o ∧ o < g 120) (h : rea g wo o r) : 0 ≤ r ∧ r < g 120 := clo_rg hw (by rintro s rfl; exact ho) h
theorem rea_mo {wo o r : Int} (h : rea g wo o r) : rea g (-1) o r := clo_min (fun s q => clo_F q) (fun c c0 c1 c2 c3 => clo_cls c c0 c1 (by omega) c3) h
theorem x_entranceSet (hw : WF g) (hd : dgr M 1 g) : ∃ v, E (d + 1) 77 [zR 1] M = Rt (some (zI v)) M ∧ ST v (fun r => r = g 122 ∧ 0 < g 120) := by
  have hR := wf_R hw
  have hE := wf_E hw
  rw [en_77, q_77_0, h1R hd, h1E hd]
  by_cases h : g 120 = 0
  · exact ⟨0, by rw [if_neg (by omega)], ST_cg ST_0 (fun i _ _ => ⟨fun q => q.elim, fun q => by omega⟩)⟩
  · exact ⟨zshl 1 (g 122), by rw [if_pos h], ST_cg (ST_1 (by omega)) (fun i _ _ => ⟨fun q => ⟨q, by omega⟩, fun q => q.1⟩)⟩
def far (g : Int → Int) (c r : Int) : Prop := rea g (-1) (g 122) r ∧ ¬ rea g c (g 122) r
noncomputable def farN (g : Int → Int) (c : Int) : Int := cn (far g c) (g 120)
theorem wf_E' (hw : WF g) {c : Int} (hc : 0 ≤ c ∧ c < g 121) : 0 ≤ g 122 ∧ g 122 < g 120 := by
  have := wf_E hw
  have := wf_ab hw hc
  omega
theorem x_farSide {c : Int} (hw : WF g) (hd : dgr M 1 g) (hc : 0 ≤ c ∧ c < g 121) : ∃ v, E (d + 4) 79 [zR 1, zI c] M = Rt (some (zI v)) M ∧ ST v (far g c) := by
  have hE := wf_E' hw hc
  obtain ⟨v0, e0, s0⟩ := x_entranceSet (d := d + 2) hw hd
  have s0' : ST v0 (fun r => r = g 122) := ST_cg s0 (fun i _ _ => ⟨fun q => q.1, fun q => ⟨q, by omega⟩⟩)
  obtain ⟨v1, e1, s1⟩ := x_spreadAll (d := d) (wo := -1) hw hd hE s0'
  obtain ⟨v2, e2, s2⟩ := x_spreadAll (d := d) (wo := c) hw hd hE s0'
  refine ⟨_, ?_, ST_dif s1 s2⟩
  rw [en_79, q_79_0, e0, Cb_I, q_79_4, e1, Cb_I, q_79_14, e2, Cb_I, q_79_25]
theorem cn_ext {p : Int → Prop} {n m : Int} (h : n ≤ m) (h0 : 0 ≤ n) (hp : ∀ r, p r → r < n) : cn p m = cn p n := by
  have : ∀ k : Nat, cn p (n + k) = cn p n := by
    intro k
    induction k with
    | zero => rw [show n + ((0 : Nat) : Int) = n by omega]
    | succ k ih => rw [show n + ((k + 1 : Nat) : Int) = n + k + 1 by omega, cn_s (by omega), ih, bI_f (fun q => by have := hp _ q; omega), Int.add_zero]
  have k := this (m - n).toNat
  rw [show n + ((m - n).toNat : Int) = m by omega] at k
  exact k
theorem x_farCount {c : Int} (hw : WF g) (hd : dgr M 1 g) (hc : 0 ≤ c ∧ c < g 121) : ∃ v, E (d + 4) 79 [zR 1, zI c] M = Rt (some (zI v)) M ∧ ∀ (d' : Nat) (M' : ZM), E (d' + 1) 249 [zI v] M' = Rt (some (zI (farN g c))) M' := by
  have hR := wf_R hw
  have hE := wf_E' hw hc
  obtain ⟨v, e, s⟩ := x_farSide (d := d) hw hd hc
  have rg : ∀ r, far g c r → r < g 120 := fun r q => (rea_rg hw hE q.1).2
  refine ⟨v, e, fun d' M' => ?_⟩
  rw [x_bitCount s (fun r q => by have := rg r q; omega)]
  exact Rt_cg (cn_ext hR.2 hR.1 rg)
theorem cn_dif {p q : Int → Prop} (h : ∀ r, q r → p r) : ∀ n : Nat, cN (fun r => p r ∧ ¬ q r) n = cN p n - cN q n
  | 0 => rfl
  | n + 1 => by
    show cN _ n + bI (p n ∧ ¬ q n) = cN p n + bI (p n) - (cN q n + bI (q n))
    rw [cn_dif h n]
    by_cases k : q n
    · rw [bI_t k, bI_t (h _ k), bI_f (fun c => c.2 k)]
      omega
    · rw [bI_f k]
      by_cases l : p n
      · rw [bI_t l, bI_t ⟨l, k⟩]
        omega
      · rw [bI_f l, bI_f (fun c => l c.1)]
        omega
theorem farN_eq {c : Int} : farN g c = cn (rea g (-1) (g 122)) (g 120) - cn (rea g c (g 122)) (g 120) := cn_dif (fun r q => rea_mo q) _
theorem m_farSide {c : Int} (hw : WF (M 139)) (hc : 0 ≤ c ∧ c < M 139 121) : ∃ M', E (d + 3) 195 [zR 138, zI c] M = Rt (some (zI (farN (M 139) c))) M' ∧ fr1 145 M M' := by
  have hR := wf_R hw
  have hW := wf_W hw
  have hE := wf_E' hw hc
  obtain ⟨M1, e1, f1, a1⟩ := m_tellDepths (d := d) hw (M 139 122) (-1) (by omega)
  have g1 : M1 139 = M 139 := f1 139 (by decide)
  obtain ⟨M2, e2, f2, a2⟩ := m_tellDepths (d := d) (M := M1) (by rw [g1]; exact hw) (M1 139 122) c (by omega)
  rw [g1] at e2 a2
  have g2 : M2 139 = M 139 := (f2 139 (by decide)).trans g1
  refine ⟨M2, ?_, fr1_t f1 f2⟩
  rw [en_195, q_195_0, e1, Cb_V, q_195_14]
  generalize M 139 = g at *
  have r1 : ∀ n : Int, 0 ≤ n → n ≤ 12 → 0 ≤ cn (rea g (-1) (g 122)) n ∧ cn (rea g (-1) (g 122)) n ≤ n := fun n n0 _ => cn_le n0
  have l1 := lpv (fun i a => Q (d + 2) 195 16 [zR 138, zI c, zI a, zI i] [] M1) (fun i => cn (rea g (-1) (g 122)) i) (g 120) hR.1 (by
    intro i i0 i1
    have k := r1 i i0 (by omega)
    have dr := dep_rea (wo := -1) hw hE i
    rw [cn_s i0, q_195_16, g1, if_neg (by omega), if_pos (by omega), a1 i i0 (by omega)]
    by_cases q : rea g (-1) (g 122) i
    · rw [if_neg (by have := dr.2 q; omega), bI_t q, zw_id (by omega), zw_id (by omega)]
    · rw [if_pos (Int.not_le.1 (fun z => q (dr.1 z))), bI_f q, zw_id (by omega), zw_id (by omega)])
  have l2 := lpv (fun i a => Q (d + 2) 195 64 [zR 138, zI c, zI a, zI i] [] M2) (fun i => cn (rea g (-1) (g 122)) (g 120) - cn (rea g c (g 122)) i) (g 120) hR.1 (by
    intro i i0 i1
    have k1 := r1 (g 120) hR.1 hR.2
    have k := cn_le (p := rea g c (g 122)) i0
    have dr := dep_rea (wo := c) hw hE i
    rw [cn_s i0, q_195_64, g2, if_neg (by omega), if_pos (by omega), a2 i i0 (by omega)]
    by_cases q : rea g c (g 122) i
    · rw [if_neg (by have := dr.2 q; omega), bI_t q, zw_id (by omega), zw_id (by omega), Int.sub_sub]
    · rw [if_pos (Int.not_le.1 (fun z => q (dr.1 z))), bI_f q, zw_id (by omega), zw_id (by omega), Int.sub_zero, Int.add_zero])
  rw [cn_0, Int.sub_zero] at l2
  rw [cn_0] at l1
  rw [l1, q_195_16, g1, if_pos (Int.le_refl _), e2, Cb_V, q_195_62, l2, q_195_64, g2, if_pos (Int.le_refl _)]
  exact Rt_cg farN_eq.symm
/-- the rooms seen before a room is asked, group by group -/
def grS (g : Int → Int) (wo : Int) (n : Nat) (r : Int) : Prop := match n with
  | 0 => False
  | n + 1 => grS g wo n r ∨ ¬ grS g wo n n ∧ rea g wo n r
def grT (g : Int → Int) (wo n : Int) : Int → Prop := grS g wo n.toNat
noncomputable def grN (g : Int → Int) (wo : Int) : Int := cn (fun i => ¬ grT g wo i i) (g 120)
theorem grT_s {wo n : Int} (h : 0 ≤ n) (r : Int) : grT g wo (n + 1) r ↔ grT g wo n r ∨ ¬ grT g wo n n ∧ rea g wo n r := by
  unfold grT
  rw [toN_s h]
  show grS g wo n.toNat r ∨ ¬ grS g wo n.toNat (n.toNat : Int) ∧ rea g wo (n.toNat : Int) r ↔ _
  rw [Int.toNat_of_nonneg h]
theorem x_groups {wo : Int} (hw : WF g) (hd : dgr M 1 g) : E (d + 4) 80 [zR 1, zI wo] M = Rt (some (zI (grN g wo))) M := by
  have hR := wf_R hw
  rw [en_80, q_80_0]
  refine lpi (fun i (s : Int × Int) => Q (d + 3) 80 7 [zR 1, zI wo, zI s.1, zI s.2, zI i] [] M) (fun o => o = Rt (some (zI (grN g wo))) M) (g 120) (fun i s => s.1 = cn (fun i => ¬ grT g wo i i) i ∧ ST s.2 (grT g wo i)) ?_ ?_ 0 (0, 0) (by omega) ⟨rfl, ST_cg ST_0 (fun i _ _ => Iff.rfl)⟩
  · rintro i ⟨a, v⟩ i0 i1 ⟨h1, h2⟩
    dsimp only at h1 h2 ⊢
    subst h1
    have k := cn_le (p := fun i => ¬ grT g wo i i) i0
    refine Or.inr ?_
    rw [q_80_7, h1R hd, if_neg (by omega), x_holds h2 (by omega), Cb_I, q_80_22]
    by_cases q : grT g wo i i
    · refine ⟨(_, v), by rw [if_pos (bI_n0.2 q), zw_id (by omega)], ?_, ST_cg h2 (fun r _ _ => ?_)⟩
      · rw [cn_s i0, bI_f (fun z => z q), Int.add_zero]
      · rw [grT_s i0]
        exact ⟨Or.inl, fun z => z.elim id (fun z => absurd q z.1)⟩
    · obtain ⟨w, e, s⟩ := x_spreadAll (d := d) (wo := wo) hw hd ⟨i0, i1⟩ (ST_1 (show 0 ≤ i ∧ i < 30 by omega))
      refine ⟨(cn (fun i => ¬ grT g wo i i) i + 1, zor v w), by rw [if_neg (fun z => z (bI_0.2 q)), e, Cb_I, q_80_38, zw_id (by omega), zw_id (by omega)], ?_, ST_cg (ST_or h2 s) (fun r _ _ => ?_)⟩
      · rw [cn_s i0, bI_t q]
      · rw [grT_s i0]
        exact ⟨fun z => z.elim Or.inl (fun z => Or.inr ⟨q, z⟩), fun z => z.elim Or.inl (fun z => Or.inr z.2)⟩
  · rintro ⟨a, v⟩ ⟨h1, h2⟩
    dsimp only at h1 h2 ⊢
    rw [q_80_7, h1R hd, if_pos (Int.le_refl _), h1]
    rfl
theorem x_bridges (hw : WF g) (hd : dgr M 1 g) : E (d + 5) 81 [zR 1] M = Rt (some (zI (cn (fun c => grN g (-1) < grN g c) (g 121)))) M := by
  have hW := wf_W hw
  rw [en_81, q_81_0, x_groups hw hd, Cb_I, q_81_5]
  refine (lpv (fun i a => Q (d + 4) 81 10 [zR 1, zI (grN g (-1)), zI a, zI i] [] M) (fun i => cn (fun c => grN g (-1) < grN g c) i) (g 121) hW.1 ?_).trans ?_
  · intro i i0 i1
    have k := cn_le (p := fun c => grN g (-1) < grN g c) i0
    rw [cn_s i0, q_81_10, h1W hd, if_neg (by omega), x_groups hw hd, Cb_I, q_81_23]
    by_cases q : grN g (-1) < grN g i
    · rw [if_neg (by omega), bI_t q, zw_id (by omega), zw_id (by omega)]
    · rw [if_pos (by omega), bI_f q, Int.add_zero, zw_id (by omega)]
  · rw [q_81_10, h1W hd, if_pos (Int.le_refl _)]
theorem m_groups {wo : Int} (hw : WF (M 139)) (hwo : -1 ≤ wo ∧ wo < 20) : ∃ M', E (d + 3) 218 [zR 138, zI wo] M = Rt (some (zI (grN (M 139) wo))) M' ∧ fr1 145 M M' := by
  have hR := wf_R hw
  rw [en_218, q_218_0]
  generalize hg : M 139 = g at *
  have gg : ∀ {M' : ZM}, fr1 145 M M' → M' 139 = g := fun h => (h 139 (by decide)).trans hg
  refine lpi (fun i (s : ZM × Int × Int × ZV) => Q (d + 2) 218 7 [zR 138, zI wo, zI s.2.1, zI s.2.2.1, zI i, s.2.2.2] [] s.1) (fun o => ∃ M', o = Rt (some (zI (grN g wo))) M' ∧ fr1 145 M M') (g 120) (fun i s => s.2.1 = cn (fun i => ¬ grT g wo i i) i ∧ ST s.2.2.1 (grT g wo i) ∧ fr1 145 M s.1) ?_ ?_ 0 (M, 0, 0, zU) (by omega) ⟨rfl, ST_cg ST_0 (fun i _ _ => Iff.rfl), fr1_r⟩
  · rintro i ⟨M1, a, v, z⟩ i0 i1 ⟨h1, h2, f1⟩
    dsimp only at h1 h2 f1 ⊢
    subst h1
    have g1 := gg f1
    have k := cn_le (p := fun i => ¬ grT g wo i i) i0
    refine Or.inr ?_
    rw [q_218_7, g1, if_neg (by omega), ST_at h2 (by omega)]
    by_cases q : grT g wo i i
    · refine ⟨(M1, _, v, z), by rw [if_pos (bI_n0.2 q), zw_id (by omega)], ?_, ST_cg h2 (fun r _ _ => ?_), f1⟩
      · rw [cn_s i0, bI_f (fun z => z q), Int.add_zero]
      · rw [grT_s i0]
        exact ⟨Or.inl, fun z => z.elim id (fun z => absurd q z.1)⟩
    · obtain ⟨M2, e2, f2, a2⟩ := m_tellDepths (d := d) (M := M1) (by rw [g1]; exact hw) i wo hwo
      rw [g1] at a2
      have f3 := fr1_t f1 f2
      have g2 := gg f3
      rw [if_neg (fun z => z (bI_0.2 q)), e2, Cb_V, q_218_38]
      refine lpi (fun j v' => Q (d + 2) 218 41 [zR 138, zI wo, zI (zw (cn (fun i => ¬ grT g wo i i) i + 1)), zI v', zI i, zI j] [] M2) (fun o => ∃ s' : ZM × Int × Int × ZV, o = Q (d + 2) 218 7 [zR 138, zI wo, zI s'.2.1, zI s'.2.2.1, zI (i + 1), s'.2.2.2] [] s'.1 ∧ s'.2.1 = cn (fun i => ¬ grT g wo i i) (i + 1) ∧ ST s'.2.2.1 (grT g wo (i + 1)) ∧ fr1 145 M s'.1) (g 120) (fun j v' => ST v' (fun r => grT g wo i r ∨ r < j ∧ rea g wo i r)) ?_ ?_ 0 v (by omega) (ST_cg h2 (fun r r0 _ => ⟨Or.inl, fun z => z.elim id (fun z => by omega)⟩))
      · intro j v' j0 j1 h3
        refine Or.inr ?_
        have dr := dep_rea (wo := wo) hw ⟨i0, i1⟩ j
        rw [q_218_41, g2, if_neg (by omega), if_pos (by omega), a2 j j0 (by omega)]
        by_cases q2 : rea g wo i j
        · refine ⟨zor v' (zshl 1 j), by rw [if_neg (by have := dr.2 q2; omega), zw_id (x := j + 1) (by omega)], ST_cg (ST_or h3 (ST_1 (by omega))) (fun r _ _ => ⟨?_, ?_⟩)⟩
          · rintro ((z | z) | z)
            · exact Or.inl z
            · exact Or.inr ⟨by omega, z.2⟩
            · exact Or.inr ⟨by omega, by rw [z]; exact q2⟩
          · rintro (z | z)
            · exact Or.inl (Or.inl z)
            · by_cases e : r = j
              · exact Or.inr e
              · exact Or.inl (Or.inr ⟨by omega, z.2⟩)
        · refine ⟨zor v' 0, by rw [if_pos (Int.not_le.1 (fun z => q2 (dr.1 z))), zw_id (x := j + 1) (by omega)], ST_cg (ST_or h3 ST_0) (fun r _ _ => ⟨?_, ?_⟩)⟩
          · rintro ((z | z) | z)
            · exact Or.inl z
            · exact Or.inr ⟨by omega, z.2⟩
            · exact z.elim
          · rintro (z | z)
            · exact Or.inl (Or.inl z)
            · by_cases e : r = j
              · rw [e] at z; exact absurd z.2 q2
              · exact Or.inl (Or.inr ⟨by omega, z.2⟩)
      · intro v' h3
        refine ⟨(M2, cn (fun i => ¬ grT g wo i i) i + 1, v', zI (g 120)), by rw [q_218_41, g2, if_pos (Int.le_refl _), zw_id (by omega), zw_id (by omega)], ?_, ST_cg h3 (fun r _ _ => ?_), f3⟩
        · rw [cn_s i0, bI_t q]
        · rw [grT_s i0]
          exact ⟨fun z => z.elim Or.inl (fun z => Or.inr ⟨q, z.2⟩), fun z => z.elim Or.inl (fun z => Or.inr ⟨(rea_rg hw ⟨i0, i1⟩ z.2).2, z.2⟩)⟩
  · rintro ⟨M1, a, v, z⟩ ⟨h1, h2, f1⟩
    dsimp only at h1 h2 f1 ⊢
    rw [q_218_7, gg f1, if_pos (Int.le_refl _), h1]
    exact ⟨M1, rfl, f1⟩
end
