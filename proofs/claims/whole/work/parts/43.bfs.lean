/-! steps between cells: what any search comes to; the class's queue -/
noncomputable def opC (g : Int → Int) (k : Int) : Prop := rAt g (k % 24) (k / 24) ≠ -1 ∨ cAt g (k % 24) (k / 24) ≠ -1
def off (t : Int) : Int := if t = 0 then -1 else if t = 1 then 1 else if t = 2 then -24 else 24
def al (k t : Int) : Prop := if t = 0 then 0 < k % 24 else if t = 1 then k % 24 < 23 else if t = 2 then 24 ≤ k else k < 360
def nbr (k l : Int) : Prop := ∃ t, (0 ≤ t ∧ t < 4) ∧ al k t ∧ l = k + off t
theorem t4 {t : Int} (h : 0 ≤ t ∧ t < 4) : t = 0 ∨ t = 1 ∨ t = 2 ∨ t = 3 := by omega
theorem al_0 {k : Int} : al k 0 ↔ 0 < k % 24 := Iff.rfl
theorem al_1 {k : Int} : al k 1 ↔ k % 24 < 23 := Iff.rfl
theorem al_2 {k : Int} : al k 2 ↔ 24 ≤ k := Iff.rfl
theorem al_3 {k : Int} : al k 3 ↔ k < 360 := Iff.rfl
theorem off_0 : off 0 = -1 := rfl
theorem off_1 : off 1 = 1 := rfl
theorem off_2 : off 2 = -24 := rfl
theorem off_3 : off 3 = 24 := rfl
theorem al_rg {k t : Int} (hk : 0 ≤ k ∧ k < 384) (ht : 0 ≤ t ∧ t < 4) (h : al k t) : 0 ≤ k + off t ∧ k + off t < 384 := by
  rcases t4 ht with rfl | rfl | rfl | rfl
  · rw [al_0] at h; rw [off_0]; omega
  · rw [al_1] at h; rw [off_1]; omega
  · rw [al_2] at h; rw [off_2]; omega
  · rw [al_3] at h; rw [off_3]; omega
theorem nbr_rg {k l : Int} (hk : 0 ≤ k ∧ k < 384) (h : nbr k l) : 0 ≤ l ∧ l < 384 := by
  obtain ⟨t, h1, h2, rfl⟩ := h
  exact al_rg hk h1 h2
theorem nbr_sy {k l : Int} (hk : 0 ≤ k ∧ k < 384) (h : nbr k l) : nbr l k := by
  obtain ⟨t, h1, h2, rfl⟩ := h
  rcases t4 h1 with rfl | rfl | rfl | rfl
  · rw [al_0] at h2; exact ⟨1, by omega, by rw [al_1, off_0]; omega, by rw [off_0, off_1]; omega⟩
  · rw [al_1] at h2; exact ⟨0, by omega, by rw [al_0, off_1]; omega, by rw [off_0, off_1]; omega⟩
  · rw [al_2] at h2; exact ⟨3, by omega, by rw [al_3, off_2]; omega, by rw [off_2, off_3]; omega⟩
  · rw [al_3] at h2; exact ⟨2, by omega, by rw [al_2, off_3]; omega, by rw [off_2, off_3]; omega⟩
def rgC (k : Int) : Prop := 0 ≤ k ∧ k < 384
def ori (g : Int → Int) (s : Int) (f : Int → Int) (k : Int) : Prop := opC g k ∧ (f k = 0 ∧ k = s ∨ ∃ l, rgC l ∧ nbr l k ∧ 0 ≤ f l ∧ f l = f k - 1)
/-- the numbers of steps from a cell, as any search finds them -/
def crt (g : Int → Int) (s : Int) (f : Int → Int) : Prop := (∀ k, rgC k → -1 ≤ f k ∧ (0 ≤ f k → ori g s f k)) ∧ f s = 0 ∧ ∀ k l, rgC k → rgC l → nbr k l → opC g l → 0 ≤ f k → 0 ≤ f l ∧ f l ≤ f k + 1
theorem crt_le {g f h : Int → Int} {s : Int} (hf : crt g s f) (hh : crt g s h) : ∀ n : Nat, ∀ k, rgC k → f k = n → 0 ≤ h k ∧ h k ≤ f k
  | 0, k, hk, e => by
    rcases ((hf.1 k hk).2 (by omega)).2 with ⟨_, z⟩ | ⟨l, _, _, l1, l2⟩
    · rw [z, hh.2.1, hf.2.1]
      omega
    · omega
  | n + 1, k, hk, e => by
    obtain ⟨o, z⟩ := (hf.1 k hk).2 (by omega)
    rcases z with ⟨z, _⟩ | ⟨l, l0, l1, l2, l3⟩
    · omega
    · have i := crt_le hf hh n l l0 (by omega)
      have := hh.2.2 l k l0 hk l1 o i.1
      omega
theorem crt_un {g f h : Int → Int} {s : Int} (hf : crt g s f) (hh : crt g s h) {k : Int} (hk : rgC k) : f k = h k := by
  have a := (hf.1 k hk).1
  have b := (hh.1 k hk).1
  by_cases k1 : 0 ≤ f k
  · have i := crt_le hf hh (f k).toNat k hk (by omega)
    have j := crt_le hh hf (h k).toNat k hk (by omega)
    omega
  · by_cases k2 : 0 ≤ h k
    · have j := crt_le hh hf (h k).toNat k hk (by omega)
      omega
    · omega
/-- the queue: all before place h are done -/
def XI (g : Int → Int) (s h : Int) (f q : Int → Int) (n : Int) : Prop :=
  (0 ≤ h ∧ h ≤ n ∧ n ≤ 384) ∧
  (∀ j, 0 ≤ j → j < n → rgC (q j) ∧ 0 ≤ f (q j)) ∧
  (∀ k, rgC k → -1 ≤ f k ∧ (0 ≤ f k → ∃ j, (0 ≤ j ∧ j < n) ∧ q j = k)) ∧
  (∀ i j, 0 ≤ i → i ≤ j → j < n → f (q i) ≤ f (q j)) ∧
  cn (fun k => 0 ≤ f k) 384 = n ∧
  (∀ k, rgC k → 0 ≤ f k → ori g s f k) ∧
  f s = 0 ∧
  (∀ j, 0 ≤ j → j < h → ∀ l, rgC l → nbr (q j) l → opC g l → 0 ≤ f l ∧ f l ≤ f (q j) + 1) ∧
  (∀ j, 0 ≤ j → j < n → h < n → f (q j) ≤ f (q h) + 1)
theorem cn_add {p q : Int → Prop} {j n : Int} (hj : 0 ≤ j ∧ j < n) (hp : ¬ p j) (h : ∀ k, 0 ≤ k → k < n → (q k ↔ p k ∨ k = j)) : cn q n = cn p n + 1 := by
  have k := cN_ins (q := p) (p := fun _ => True) (j := j) hp n.toNat
  rw [if_pos (by omega), bI_t trivial] at k
  unfold cn
  rw [← k]
  exact cN_cg _ (fun i i0 i1 => (h i i0 (by omega)).trans ⟨fun z => z.elim Or.inl (fun z => Or.inr ⟨z, trivial⟩), fun z => z.elim Or.inl (fun z => Or.inr z.1)⟩)
theorem XI_add {g f q : Int → Int} {s h n c : Int} (x : XI g s h f q n) (hn : h < n) (hc : rgC c) (ho : opC g c) (hf : f c = -1) (hb : nbr (q h) c) : XI g s h (up1 f c (f (q h) + 1)) (up1 q n c) (n + 1) ∧ n < 384 := by
  obtain ⟨x1, x2, x3, x4, x5, x6, x7, x8, x9⟩ := x
  have qh := x2 h x1.1 hn
  have cadd := cn_add (p := fun k => 0 ≤ f k) (q := fun k => 0 ≤ up1 f c (f (q h) + 1) k) (n := 384) hc (by omega) (fun k k0 k1 => by
    by_cases e : k = c
    · rw [e, up1_s]
      exact ⟨fun _ => Or.inr rfl, fun _ => by omega⟩
    · rw [up1_n e]
      exact ⟨Or.inl, fun z => z.resolve_right e⟩)
  have cle := cn_le (p := fun k => 0 ≤ up1 f c (f (q h) + 1) k) (n := 384) (by omega)
  have n384 : n < 384 := by omega
  have old : ∀ k, 0 ≤ f k → up1 f c (f (q h) + 1) k = f k := fun k z => up1_n (fun e => by rw [e] at z; omega)
  have qo : ∀ j, j < n → up1 q n c j = q j := fun j z => up1_n (by omega)
  have fq : ∀ j, 0 ≤ j → j < n → up1 f c (f (q h) + 1) (up1 q n c j) = f (q j) := fun j j0 j1 => by rw [qo j j1, old _ (x2 j j0 j1).2]
  have fn : up1 f c (f (q h) + 1) (up1 q n c n) = f (q h) + 1 := by rw [up1_s, up1_s]
  refine ⟨⟨by omega, ?_, ?_, ?_, by omega, ?_, ?_, ?_, ?_⟩, n384⟩
  · intro j j0 j1
    by_cases e : j = n
    · rw [e, fn, up1_s]
      exact ⟨hc, by omega⟩
    · rw [fq j j0 (by omega), qo j (by omega)]
      exact x2 j j0 (by omega)
  · intro k hk
    by_cases e : k = c
    · rw [e, up1_s]
      exact ⟨by omega, fun _ => ⟨n, by omega, up1_s _ _ _⟩⟩
    · rw [up1_n e]
      refine ⟨(x3 k hk).1, fun z => ?_⟩
      obtain ⟨j, j0, j1⟩ := (x3 k hk).2 z
      exact ⟨j, by omega, by rw [qo j j0.2, j1]⟩
  · intro i j i0 i1 i2
    by_cases e : j = n
    · rw [e, fn]
      by_cases e2 : i = n
      · rw [e2, fn]
        exact Int.le_refl _
      · rw [fq i i0 (by omega)]
        exact x9 i i0 (by omega) hn
    · rw [fq i i0 (by omega), fq j (by omega) (by omega)]
      exact x4 i j i0 i1 (by omega)
  · intro k hk
    by_cases e : k = c
    · rw [e, up1_s]
      exact fun _ => ⟨ho, Or.inr ⟨q h, qh.1, hb, by rw [old _ qh.2]; exact qh.2, by rw [old _ qh.2, up1_s]; omega⟩⟩
    · rw [up1_n e]
      intro z
      obtain ⟨o, w⟩ := x6 k hk z
      refine ⟨o, ?_⟩
      rcases w with ⟨w1, w2⟩ | ⟨l, l0, l1, l2, l3⟩
      · exact Or.inl ⟨by rw [up1_n e]; exact w1, w2⟩
      · exact Or.inr ⟨l, l0, l1, by rw [old l l2]; exact l2, by rw [old l l2, up1_n e]; exact l3⟩
  · rw [old s (by omega)]
    exact x7
  · intro j j0 j1 l l0 l1 l2
    rw [qo j (by omega)] at l1
    have w := x8 j j0 j1 l l0 l1 l2
    rw [fq j j0 (by omega), old l w.1]
    exact w
  · intro j j0 j1 j2
    rw [fq h x1.1 hn]
    by_cases e : j = n
    · rw [e, fn]
      exact Int.le_refl _
    · rw [fq j j0 (by omega)]
      exact x9 j j0 (by omega) hn
section
variable {d : Nat} {M : ZM} {g : Int → Int}
theorem x_isFloor {k : Int} (hk : rgC k) (h1 : tab (M 133) (rAt g)) (h2 : tab (M 134) (cAt g)) : E (d + 1) 58 [zR 132, zI k] M = Rt (some (zI (bI (opC g k)))) M := by
  unfold rgC at hk
  unfold opC
  rw [en_58, q_58_0, if_pos hk, tab_at h1 hk, tab_at h2 hk]
  by_cases a : rAt g (k % 24) (k / 24) = -1
  · rw [if_neg (fun q => q a)]
    by_cases b : cAt g (k % 24) (k / 24) = -1
    · rw [if_pos b, if_pos hk, bI_f (fun z => z.elim (fun z => z a) (fun z => z b))]
    · rw [if_neg b, if_pos hk, bI_t (Or.inr b)]
  · rw [if_pos a, bI_t (Or.inl a)]
/-- the same but for the queue -/
def f3 (M M' : ZM) : Prop := ∀ b, b ≠ 132 → b ≠ 136 → b ≠ 137 → M' b = M b
def ext (f f' : Int → Int) : Prop := ∀ k, 0 ≤ f k → f' k = f k
theorem x_enter {s h k c : Int} (h1 : tab (M 133) (rAt g)) (h2 : tab (M 134) (cAt g)) (x : XI g s h (M 136) (M 137) (M 132 5)) (hn : h < M 132 5) (hk : M 137 h = k) (hc : c = -1 ∨ rgC c ∧ nbr k c) {v : Int} (hv : v = M 136 k + 1) : ∃ M', E (d + 2) 63 [zR 132, zI c, zI v] M = Rt none M' ∧ f3 M M' ∧ XI g s h (M' 136) (M' 137) (M' 132 5) ∧ M 132 5 ≤ M' 132 5 ∧ M' 137 h = k ∧ ext (M 136) (M' 136) ∧ (rgC c → opC g c → 0 ≤ M' 136 c ∧ M' 136 c ≤ M 136 k + 1) := by
  have stay : E (d + 2) 63 [zR 132, zI c, zI v] M = Rt none M → (rgC c → opC g c → 0 ≤ M 136 c ∧ M 136 c ≤ M 136 k + 1) → ∃ M', E (d + 2) 63 [zR 132, zI c, zI v] M = Rt none M' ∧ f3 M M' ∧ XI g s h (M' 136) (M' 137) (M' 132 5) ∧ M 132 5 ≤ M' 132 5 ∧ M' 137 h = k ∧ ext (M 136) (M' 136) ∧ (rgC c → opC g c → 0 ≤ M' 136 c ∧ M' 136 c ≤ M 136 k + 1) := fun e q => ⟨M, e, fun _ _ _ _ => rfl, x, Int.le_refl _, hk, fun _ _ => rfl, q⟩
  have x1 := x.1
  have full : ∀ c, rgC c → 0 ≤ M 136 c → M 136 c ≤ M 136 k + 1 := by
    intro c hc z
    obtain ⟨j, j0, j1⟩ := (x.2.2.1 c hc).2 z
    have := x.2.2.2.2.2.2.2.2 j j0.1 j0.2 hn
    rw [j1, hk] at this
    exact this
  by_cases e1 : c = -1
  · refine stay ?_ (fun z => by unfold rgC at z; omega)
    rw [en_63, q_63_0, if_pos e1]
  · obtain ⟨c0, c1⟩ := hc.resolve_left e1
    have c0' : 0 ≤ c ∧ c < 384 := c0
    by_cases e2 : M 136 c = -1
    · by_cases e3 : opC g c
      · obtain ⟨xx, n384⟩ := XI_add x hn c0 e3 e2 (by rw [hk]; exact c1)
        rw [hk] at xx
        have e5 : (zwr M 136 c v) 132 5 = M 132 5 := zwr_ne (by decide)
        refine ⟨zwr (zwr (zwr M 136 c v) 137 (M 132 5) c) 132 5 (M 132 5 + 1), ?_, ?_, ?_, ?_, ?_, ?_, ?_⟩
        · rw [en_63, q_63_0, if_neg e1, if_neg (by omega), x_isFloor c0 h1 h2, Cb_I, q_63_20, if_neg (bI_n0.2 e3), if_pos c0', if_neg (fun q => q e2), if_pos c0', e5, if_pos (by omega), zwr_ne (by decide), e5, zw_id (by omega)]
        · intro b b1 b2 b3
          rw [zwr_n b1, zwr_n b3, zwr_n b2]
        · have a1 : (zwr (zwr (zwr M 136 c v) 137 (M 132 5) c) 132 5 (M 132 5 + 1)) 136 = up1 (M 136) c (M 136 k + 1) := by
            rw [zwr_n (by decide), zwr_n (by decide), zwr_u, hv]
          have a2 : (zwr (zwr (zwr M 136 c v) 137 (M 132 5) c) 132 5 (M 132 5 + 1)) 137 = up1 (M 137) (M 132 5) c := by
            rw [zwr_n (by decide), zwr_u, zwr_n (by decide)]
          rw [a1, a2, zwr_at]
          exact xx
        · rw [zwr_at]
          omega
        · rw [zwr_ne (by decide), zwr_nj (by omega), zwr_ne (by decide)]
          exact hk
        · intro l z
          rw [zwr_ne (by decide), zwr_ne (by decide), zwr_nj (fun e => by rw [e] at z; omega)]
        · intro _ _
          have k0 := x.2.1 h x1.1 hn
          rw [hk] at k0
          rw [zwr_ne (by decide), zwr_ne (by decide), zwr_at, hv]
          omega
      · refine stay ?_ (fun _ z => absurd z e3)
        rw [en_63, q_63_0, if_neg e1]
        by_cases z : 384 ≤ M 132 5
        · rw [if_pos z]
        · rw [if_neg z, x_isFloor c0 h1 h2, Cb_I, q_63_20, if_pos (bI_0.2 e3)]
    · have c3 := (x.2.2.1 c c0).1
      refine stay ?_ (fun _ _ => ⟨by omega, full c c0 (by omega)⟩)
      rw [en_63, q_63_0, if_neg e1]
      by_cases z : 384 ≤ M 132 5
      · rw [if_pos z]
      · rw [if_neg z, x_isFloor c0 h1 h2, Cb_I, q_63_20]
        by_cases e3 : opC g c
        · rw [if_neg (bI_n0.2 e3), if_pos c0', if_pos e2]
        · rw [if_pos (bI_0.2 e3)]
theorem cel_n {k t x y : Int} (hk : rgC k) (ht : 0 ≤ t ∧ t < 4) (h : (t = 0 ∧ x = k % 24 - 1 ∧ y = k / 24) ∨ (t = 1 ∧ x = k % 24 + 1 ∧ y = k / 24) ∨ (t = 2 ∧ x = k % 24 ∧ y = k / 24 - 1) ∨ (t = 3 ∧ x = k % 24 ∧ y = k / 24 + 1)) : (cel x y = -1 ∧ ¬ al k t) ∨ (rgC (cel x y) ∧ nbr k (cel x y)) ∧ cel x y = k + off t := by
  unfold rgC at hk
  by_cases a : al k t
  · refine Or.inr ?_
    have e : cel x y = k + off t := by
      unfold cel
      rcases h with ⟨rfl, h⟩ | ⟨rfl, h⟩ | ⟨rfl, h⟩ | ⟨rfl, h⟩
      · rw [al_0] at a; rw [off_0, if_pos (by omega)]; omega
      · rw [al_1] at a; rw [off_1, if_pos (by omega)]; omega
      · rw [al_2] at a; rw [off_2, if_pos (by omega)]; omega
      · rw [al_3] at a; rw [off_3, if_pos (by omega)]; omega
    rw [e]
    exact ⟨⟨al_rg hk ht a, t, ht, a, rfl⟩, rfl⟩
  · refine Or.inl ⟨?_, a⟩
    unfold cel
    rcases h with ⟨rfl, h⟩ | ⟨rfl, h⟩ | ⟨rfl, h⟩ | ⟨rfl, h⟩
    · rw [al_0] at a; rw [if_neg (by omega)]
    · rw [al_1] at a; rw [if_neg (by omega)]
    · rw [al_2] at a; rw [if_neg (by omega)]
    · rw [al_3] at a; rw [if_neg (by omega)]
theorem f3_t {M M' M'' : ZM} (h : f3 M M') (k : f3 M' M'') : f3 M M'' := fun b b1 b2 b3 => (k b b1 b2 b3).trans (h b b1 b2 b3)
theorem ext_t {f f' f'' : Int → Int} (h : ext f f') (k : ext f' f'') : ext f f'' := fun j z => (k j (by rw [h j z]; exact z)).trans (h j z)
theorem x_steps {s to : Int} (hs : rgC s) (ht : rgC to) (ho : opC g s) (h1 : tab (M 133) (rAt g)) (h2 : tab (M 134) (cAt g)) : ∃ M' f, E (d + 3) 62 [zR 132, zI s, zI to] M = Rt (some (zI (if f to = -1 then -104 else f to))) M' ∧ frr 109 137 M M' ∧ crt g s f := by
  obtain ⟨M1, e1, f1, a1⟩ := x_fill (d := d + 1) (M := M) (r := 136) (w := 384) rfl rfl (by omega) (-1)
  have hs' : 0 ≤ s ∧ s < 384 := hs
  have a1' : ∀ k, rgC k → M1 136 k = -1 := fun k hk => a1 k hk.1 hk.2
  have m3 : M1 133 = M 133 := f1 133 (by decide)
  have m4 : M1 134 = M 134 := f1 134 (by decide)
  -- the first cell
  have first : E (d + 2) 63 [zR 132, zI s, zI 0] (zwr M1 132 5 0) = Rt none (zwr (zwr (zwr (zwr M1 132 5 0) 136 s 0) 137 0 s) 132 5 1) := by
    have c5 : (zwr (zwr M1 132 5 0) 136 s 0) 132 5 = 0 := by rw [zwr_ne (by decide)]; exact zwr_at
    rw [en_63, q_63_0, if_neg (by omega), zwr_at, if_neg (by omega), x_isFloor (g := g) hs (by rw [zwr_n (by decide), m3]; exact h1) (by rw [zwr_n (by decide), m4]; exact h2), Cb_I, q_63_20, if_neg (bI_n0.2 ho), if_pos hs', zwr_ne (by decide), a1' s hs, if_neg (by omega), if_pos hs', c5, if_pos (by omega), zwr_ne (by decide), c5, zw_id (by omega)]
    rfl
  generalize hM2 : zwr (zwr (zwr (zwr M1 132 5 0) 136 s 0) 137 0 s) 132 5 1 = M2 at first
  have n2 : M2 132 5 = 1 := by rw [← hM2, zwr_at]
  have q2 : M2 137 0 = s := by rw [← hM2, zwr_ne (by decide), zwr_at]
  have p2 : M2 136 s = 0 := by rw [← hM2, zwr_ne (by decide), zwr_ne (by decide), zwr_at]
  have o2 : ∀ k, rgC k → k ≠ s → M2 136 k = -1 := fun k hk e => by rw [← hM2, zwr_ne (by decide), zwr_ne (by decide), zwr_nj e, zwr_ne (by decide)]; exact a1' k hk
  have F2 : f3 M M2 := by
    intro b b1 b2 b3
    rw [← hM2, zwr_n b1, zwr_n b3, zwr_n b2, zwr_n b1]
    exact f1 b b2
  have x2 : XI g s 0 (M2 136) (M2 137) (M2 132 5) := by
    rw [n2]
    have j0 : ∀ j : Int, 0 ≤ j → j < 1 → M2 137 j = s := fun j a b => by rw [show j = 0 by omega]; exact q2
    refine ⟨by omega, ?_, ?_, ?_, ?_, ?_, p2, ?_, ?_⟩
    · intro j a b
      rw [j0 j a b]
      exact ⟨hs, by omega⟩
    · intro k hk
      by_cases e : k = s
      · rw [e]
        exact ⟨by omega, fun _ => ⟨0, by omega, q2⟩⟩
      · rw [o2 k hk e]
        exact ⟨by omega, fun z => by omega⟩
    · intro i j a b c
      rw [j0 i a (by omega), j0 j (by omega) c]
      exact Int.le_refl _
    · have k := cn_add (p := fun _ => False) (q := fun k => 0 ≤ M2 136 k) (n := 384) hs' (fun z => z) (fun k k0 k1 => by
        by_cases e : k = s
        · rw [e]
          exact ⟨fun _ => Or.inr rfl, fun _ => by omega⟩
        · rw [o2 k ⟨k0, k1⟩ e]
          exact ⟨fun z => by omega, fun z => absurd (z.resolve_left (fun z => z)) e⟩)
      have z : cn (fun _ => False) 384 = 0 := by
        have : ∀ m : Nat, cN (fun _ => False) m = 0 := by
          intro m
          induction m with
          | zero => rfl
          | succ m ih =>
            show cN _ m + bI False = 0
            rw [ih, bI_f (fun z => z)]
            rfl
        exact this _
      omega
    · intro k hk z
      by_cases e : k = s
      · rw [e]
        exact ⟨ho, Or.inl ⟨p2, rfl⟩⟩
      · rw [o2 k hk e] at z
        omega
    · intro j a b
      omega
    · intro j a b _
      rw [j0 j a b, q2]
      omega
  rw [en_62, q_62_0, e1, Cb_V, q_62_8, first, Cb_V, q_62_19]
  have fin : ∀ (M3 : ZM) (i : Int) (z4 z5 z6 : ZV), f3 M M3 → XI g s i (M3 136) (M3 137) (M3 132 5) → M3 132 5 ≤ i → ∃ M' f, Q (d + 2) 62 139 [zR 132, zI s, zI to, zI i, z4, z5, z6] [] M3 = Rt (some (zI (if f to = -1 then -104 else f to))) M' ∧ frr 109 137 M M' ∧ crt g s f := by
    intro M3 i z4 z5 z6 F3 x3 hi
    have ht' : 0 ≤ to ∧ to < 384 := ht
    refine ⟨M3, M3 136, ?_, fun b hb => F3 b (by omega) (by omega) (by omega), ?_⟩
    · rw [q_62_139, if_pos ht']
      by_cases e : M3 136 to = -1
      · rw [if_neg (fun q => q e), if_pos e]
      · rw [if_pos e, if_pos ht', if_neg e]
    · obtain ⟨y1, y2, y3, y4, y5, y6, y7, y8, y9⟩ := x3
      refine ⟨fun k hk => ⟨(y3 k hk).1, y6 k hk⟩, y7, fun k l hk hl hkl hol z => ?_⟩
      obtain ⟨j, j0, j1⟩ := (y3 k hk).2 z
      have := y8 j j0.1 (by omega) l hl (by rw [j1]; exact hkl) hol
      rw [j1] at this
      exact this
  refine lpi (fun i (w : ZM × ZV × ZV × ZV) => Q (d + 2) 62 21 [zR 132, zI s, zI to, zI i, w.2.1, w.2.2.1, w.2.2.2] [] w.1) (fun o => ∃ M' f, o = Rt (some (zI (if f to = -1 then -104 else f to))) M' ∧ frr 109 137 M M' ∧ crt g s f) 384 (fun i w => f3 M w.1 ∧ XI g s i (w.1 136) (w.1 137) (w.1 132 5)) ?_ ?_ 0 (M2, zU, zU, zU) (by omega) ⟨F2, x2⟩
  · rintro i ⟨M3, z4, z5, z6⟩ i0 i1 ⟨F3, x3⟩
    dsimp only at F3 x3 ⊢
    rw [q_62_21, if_neg (by omega)]
    by_cases hn : M3 132 5 ≤ i
    · rw [if_pos hn]
      exact Or.inl (fin M3 i z4 z5 z6 F3 x3 hn)
    · refine Or.inr ?_
      have hin : i < M3 132 5 := by omega
      obtain ⟨qk, qf⟩ := x3.2.1 i i0 hin
      generalize hk : M3 137 i = k at *
      have qk' : 0 ≤ k ∧ k < 384 := qk
      have tb := tm24 qk'
      have fk : M3 136 k < 100000 := by
        -- a number of steps is less than the number of cells
        have pig : ∀ n : Nat, ∀ k, rgC k → M3 136 k = n → (n : Int) + 1 ≤ cn (fun l => 0 ≤ M3 136 l ∧ M3 136 l ≤ n) 384 := by
          intro n
          induction n with
          | zero =>
            intro k hk e
            exact cn_pos hk (by omega)
          | succ n ih =>
            intro k hk e
            rcases (x3.2.2.2.2.2.1 k hk (by omega)).2 with ⟨z, _⟩ | ⟨l, l0, _, l2, l3⟩
            · omega
            · have := ih l l0 (by omega)
              have := cn_lt (p := fun l => 0 ≤ M3 136 l ∧ M3 136 l ≤ (n : Int)) (q := fun l => 0 ≤ M3 136 l ∧ M3 136 l ≤ ((n + 1 : Nat) : Int)) (n := 384) hk (by omega) (by omega) (fun j _ _ => by omega)
              omega
        have p := pig (M3 136 k).toNat k qk (by omega)
        have := cn_le (p := fun l => 0 ≤ M3 136 l ∧ M3 136 l ≤ ((M3 136 k).toNat : Int)) (n := 384) (by omega)
        omega
      have hv : ∀ N : ZM, ext (M3 136) (N 136) → M3 136 k + 1 = N 136 k + 1 := fun N e => by rw [e k qf]
      have t1 : ∀ N : ZM, f3 M N → tab (N 133) (rAt g) := fun N e => by rw [e 133 (by decide) (by decide) (by decide)]; exact h1
      have t2 : ∀ N : ZM, f3 M N → tab (N 134) (cAt g) := fun N e => by rw [e 134 (by decide) (by decide) (by decide)]; exact h2
      rw [if_neg hn, if_pos ⟨i0, i1⟩, if_pos ⟨i0, i1⟩, if_pos ⟨i0, i1⟩, if_pos qk', tb.1, tb.2, zw_id (x := k % 24 - 1) (by omega), zw_id (x := M3 136 k + 1) (by omega), x_cellAt, Cb_I, q_62_83]
      have n0 := cel_n (t := 0) qk (by omega) (Or.inl ⟨rfl, rfl, rfl⟩)
      obtain ⟨M4, e4, F4, x4, l4, k4, s4, r4⟩ := x_enter (d := d) (c := cel (k % 24 - 1) (k / 24)) (v := M3 136 k + 1) (t1 M3 F3) (t2 M3 F3) x3 hin hk (n0.elim (fun z => Or.inl z.1) (fun z => Or.inr z.1)) rfl
      have G4 := f3_t F3 F4
      rw [e4, Cb_V, q_62_88, zw_id (x := k % 24 + 1) (by omega), x_cellAt, Cb_I, q_62_98]
      have n1 := cel_n (t := 1) qk (by omega) (Or.inr (Or.inl ⟨rfl, rfl, rfl⟩))
      obtain ⟨M5, e5, F5, x5, l5, k5, s5, r5⟩ := x_enter (d := d) (c := cel (k % 24 + 1) (k / 24)) (v := M3 136 k + 1) (t1 M4 G4) (t2 M4 G4) x4 (by omega) k4 (n1.elim (fun z => Or.inl z.1) (fun z => Or.inr z.1)) (hv M4 s4)
      have G5 := f3_t G4 F5
      have S5 := ext_t s4 s5
      rw [e5, Cb_V, q_62_103, zw_id (x := k / 24 - 1) (by omega), x_cellAt, Cb_I, q_62_113]
      have n2 := cel_n (t := 2) qk (by omega) (Or.inr (Or.inr (Or.inl ⟨rfl, rfl, rfl⟩)))
      obtain ⟨M6, e6, F6, x6, l6, k6, s6, r6⟩ := x_enter (d := d) (c := cel (k % 24) (k / 24 - 1)) (v := M3 136 k + 1) (t1 M5 G5) (t2 M5 G5) x5 (by omega) k5 (n2.elim (fun z => Or.inl z.1) (fun z => Or.inr z.1)) (hv M5 S5)
      have G6 := f3_t G5 F6
      have S6 := ext_t S5 s6
      rw [e6, Cb_V, q_62_118, zw_id (x := k / 24 + 1) (by omega), x_cellAt, Cb_I, q_62_128]
      have n3 := cel_n (t := 3) qk (by omega) (Or.inr (Or.inr (Or.inr ⟨rfl, rfl, rfl⟩)))
      obtain ⟨M7, e7, F7, x7, l7, k7, s7, r7⟩ := x_enter (d := d) (c := cel (k % 24) (k / 24 + 1)) (v := M3 136 k + 1) (t1 M6 G6) (t2 M6 G6) x6 (by omega) k6 (n3.elim (fun z => Or.inl z.1) (fun z => Or.inr z.1)) (hv M6 S6)
      have S7 := ext_t S6 s7
      rw [e7, Cb_V, q_62_133, zw_id (x := i + 1) (by omega)]
      refine ⟨(M7, zI (k % 24), zI (k / 24), zI (M3 136 k + 1)), rfl, f3_t G6 F7, ?_⟩
      dsimp only
      have fk7 : M7 136 k = M3 136 k := S7 k qf
      have near : ∀ l, nbr k l → opC g l → 0 ≤ M7 136 l ∧ M7 136 l ≤ M3 136 k + 1 := by
        rintro l ⟨t, t0, t1', rfl⟩ ol
        have fin2 : ∀ (N : ZM) (c : Int), c = k + off t → ext (N 136) (M7 136) → (rgC c → opC g c → 0 ≤ N 136 c ∧ N 136 c ≤ M3 136 k + 1) → 0 ≤ M7 136 (k + off t) ∧ M7 136 (k + off t) ≤ M3 136 k + 1 := by
          intro N c ec se r
          rw [← ec] at ol ⊢
          have rc : rgC c := by rw [ec]; exact al_rg qk' t0 t1'
          have w := r rc ol
          rw [se c w.1]
          exact w
        rcases t4 t0 with rfl | rfl | rfl | rfl
        · exact fin2 M4 _ (n0.elim (fun z => absurd t1' z.2) (fun z => z.2)) (ext_t (ext_t s5 s6) s7) r4
        · exact fin2 M5 _ (n1.elim (fun z => absurd t1' z.2) (fun z => z.2)) (ext_t s6 s7) (fun a b => by rw [hv M4 s4]; exact r5 a b)
        · exact fin2 M6 _ (n2.elim (fun z => absurd t1' z.2) (fun z => z.2)) s7 (fun a b => by rw [hv M5 S5]; exact r6 a b)
        · exact fin2 M7 _ (n3.elim (fun z => absurd t1' z.2) (fun z => z.2)) (fun _ _ => rfl) (fun a b => by rw [hv M6 S6]; exact r7 a b)
      obtain ⟨y1, y2, y3, y4, y5, y6, y7, y8, y9⟩ := x7
      refine ⟨by omega, y2, y3, y4, y5, y6, y7, ?_, ?_⟩
      · intro j j0 j1 l l0 l1 l2
        by_cases e : j = i
        · rw [e, k7] at l1 ⊢
          rw [fk7]
          exact near l l1 l2
        · exact y8 j j0 (by omega) l l0 l1 l2
      · intro j j0 j1 j2
        have := y9 j j0 j1 (by omega)
        have := y4 i (i + 1) i0 (by omega) j2
        omega
  · rintro ⟨M3, z4, z5, z6⟩ ⟨F3, x3⟩
    dsimp only at F3 x3 ⊢
    rw [q_62_21, if_pos (Int.le_refl _)]
    exact fin M3 384 z4 z5 z6 F3 x3 x3.1.2.2
end
