/-! the reference's steps -/
section
variable {d : Nat} {M : ZM} {g : Int → Int}
theorem m_isOpen {k : Int} (hw : WF (M 139)) (hk : rgC k) : E (d + 5) 215 [zR 138, zI k] M = Rt (some (zI (bI (opC (M 139) k)))) M := by
  have hk' : 0 ≤ k ∧ k < 384 := hk
  have tb := tm24 hk'
  have a := rAt_rg hw (k % 24) (k / 24)
  have b := cAt_rg hw (k % 24) (k / 24)
  unfold opC
  rw [en_215, q_215_0, tb.1, tb.2, m_roomAt hw (by omega) (by omega), Cb_I, q_215_12, tb.1, tb.2]
  by_cases h : rAt (M 139) (k % 24) (k / 24) = -1
  · rw [if_neg (by omega), m_cAt hw (by omega) (by omega), Cb_I, q_215_28]
    by_cases l : cAt (M 139) (k % 24) (k / 24) = -1
    · rw [if_pos (by omega), bI_f (fun z => z.elim (fun z => z h) (fun z => z l))]
    · rw [if_neg (by omega), bI_t (Or.inr l)]
  · rw [if_pos (by omega), bI_t (Or.inl h)]
/-- the least of the numbers beside a cell -/
def arV (f : Int → Int) (k i a : Int) : Prop := (a = -1 ∧ ∀ t, 0 ≤ t → t < i → al k t → f (k + off t) < 0) ∨ (∃ t, (0 ≤ t ∧ t < i) ∧ al k t ∧ f (k + off t) = a) ∧ 0 ≤ a ∧ ∀ t, 0 ≤ t → t < i → al k t → 0 ≤ f (k + off t) → a ≤ f (k + off t)
theorem m_around {k : Int} (hk : rgC k) : ∃ a, E (d + 1) 216 [zR 138, zI k] M = Rt (some (zI a)) M ∧ arV (M 150) k 4 a := by
  have hk' : 0 ≤ k ∧ k < 384 := hk
  have tb := tm24 hk'
  rw [en_216, q_216_0, tb.1]
  refine lpi (fun t (s : Int × ZV × ZV) => Q d 216 10 [zR 138, zI k, zI s.1, zI (k % 24), zI t, s.2.1, s.2.2] [] M) (fun o => ∃ a, o = Rt (some (zI a)) M ∧ arV (M 150) k 4 a) 4 (fun t s => arV (M 150) k t s.1) ?_ ?_ 0 (-1, zU, zU) (by omega) (Or.inl ⟨rfl, fun t t0 t1 => absurd t1 (by omega)⟩)
  · rintro t ⟨a, z5, z6⟩ t0 t1 h
    dsimp only at h ⊢
    refine Or.inr ?_
    have go : Q d 216 10 [zR 138, zI k, zI a, zI (k % 24), zI t, z5, z6] [] M = Q d 216 120 [zR 138, zI k, zI a, zI (k % 24), zI t, zI (bI (al k t)), z6] [zI (off t), zI k] M := by
      have h10 : Q d 216 10 [zR 138, zI k, zI a, zI (k % 24), zI t, z5, z6] [] M = Q d 216 85 [zR 138, zI k, zI a, zI (k % 24), zI t, z5, z6] [zI (bI (al k t))] M := by
        rw [q_216_10, if_neg (by omega)]
        rcases t4 ⟨t0, t1⟩ with rfl | rfl | rfl | rfl
        · rw [if_neg (by omega), bI_cg al_0]
          by_cases q : 0 < k % 24
          · rw [if_neg (by omega), bI_t q]
          · rw [if_pos (by omega), bI_f q]
        · rw [if_pos (by omega), if_neg (by omega), bI_cg al_1]
          by_cases q : k % 24 < 23
          · rw [if_neg (by omega), bI_t q]
          · rw [if_pos (by omega), bI_f q]
        · rw [if_pos (by omega), if_pos (by omega), if_neg (by omega), bI_cg al_2]
          by_cases q : 24 ≤ k
          · rw [if_neg (by omega), bI_t q]
          · rw [if_pos (by omega), bI_f q]
        · rw [if_pos (by omega), if_pos (by omega), if_pos (by omega), bI_cg al_3]
          by_cases q : k < 360
          · rw [if_neg (by omega), bI_t q]
          · rw [if_pos (by omega), bI_f q]
      rw [h10, q_216_85]
      rcases t4 ⟨t0, t1⟩ with rfl | rfl | rfl | rfl
      · rw [if_neg (by omega), off_0]
      · rw [if_pos (by omega), if_neg (by omega), off_1]
      · rw [if_pos (by omega), if_pos (by omega), if_neg (by omega), off_2]
      · rw [if_pos (by omega), if_pos (by omega), if_pos (by omega), off_3]
    have orng : -24 ≤ off t ∧ off t ≤ 24 := by
      rcases t4 ⟨t0, t1⟩ with rfl | rfl | rfl | rfl
      · rw [off_0]; omega
      · rw [off_1]; omega
      · rw [off_2]; omega
      · rw [off_3]; omega
    rw [go, q_216_120, zw_id (x := t + 1) (by omega), zw_id (x := k + off t) (by omega)]
    by_cases q : al k t
    · have rg := al_rg hk' ⟨t0, t1⟩ q
      rw [if_neg (bI_n0.2 q), if_pos rg]
      by_cases l : M 150 (k + off t) < 0
      · rw [if_pos l]
        refine ⟨(a, zI (bI (al k t)), zI (k + off t)), rfl, ?_⟩
        rcases h with ⟨h1, h2⟩ | ⟨⟨u, u1, u2, u3⟩, h2, h3⟩
        · refine Or.inl ⟨h1, fun u u0 u1 u2 => ?_⟩
          by_cases e : u = t
          · rw [e]; exact l
          · exact h2 u u0 (by omega) u2
        · refine Or.inr ⟨⟨u, by omega, u2, u3⟩, h2, fun v v0 v1 v2 v3 => ?_⟩
          by_cases e : v = t
          · rw [e] at v3; omega
          · exact h3 v v0 (by omega) v2 v3
      · rw [if_neg l]
        by_cases n : a = -1
        · rw [if_pos n, if_pos rg]
          refine ⟨(M 150 (k + off t), zI (bI (al k t)), zI (k + off t)), rfl, Or.inr ⟨⟨t, by omega, q, rfl⟩, by dsimp only; omega, fun v v0 v1 v2 v3 => ?_⟩⟩
          dsimp only
          by_cases e : v = t
          · rw [e]; exact Int.le_refl _
          · rcases h with ⟨h1, h2⟩ | ⟨_, h2, _⟩
            · have := h2 v v0 (by omega) v2
              omega
            · omega
        · rw [if_neg n, if_pos rg]
          rcases h with ⟨h1, _⟩ | ⟨⟨u, u1, u2, u3⟩, h2, h3⟩
          · exact absurd h1 n
          · by_cases m : a ≤ M 150 (k + off t)
            · rw [if_pos m]
              refine ⟨(a, zI (bI (al k t)), zI (k + off t)), rfl, Or.inr ⟨⟨u, by omega, u2, u3⟩, h2, fun v v0 v1 v2 v3 => ?_⟩⟩
              by_cases e : v = t
              · rw [e]; exact m
              · exact h3 v v0 (by omega) v2 v3
            · rw [if_neg m, if_pos rg]
              refine ⟨(M 150 (k + off t), zI (bI (al k t)), zI (k + off t)), rfl, Or.inr ⟨⟨t, by omega, q, rfl⟩, by dsimp only; omega, fun v v0 v1 v2 v3 => ?_⟩⟩
              dsimp only
              by_cases e : v = t
              · rw [e]; exact Int.le_refl _
              · have := h3 v v0 (by omega) v2 v3
                omega
    · rw [if_pos (bI_0.2 q)]
      refine ⟨(a, zI (bI (al k t)), zI (k + off t)), rfl, ?_⟩
      rcases h with ⟨h1, h2⟩ | ⟨⟨u, u1, u2, u3⟩, h2, h3⟩
      · refine Or.inl ⟨h1, fun u u0 u1 u2 => ?_⟩
        by_cases e : u = t
        · rw [e] at u2; exact absurd u2 q
        · exact h2 u u0 (by omega) u2
      · refine Or.inr ⟨⟨u, by omega, u2, u3⟩, h2, fun v v0 v1 v2 v3 => ?_⟩
        by_cases e : v = t
        · rw [e] at v2; exact absurd v2 q
        · exact h3 v v0 (by omega) v2 v3
  · rintro ⟨a, z5, z6⟩ h
    dsimp only at h ⊢
    exact ⟨a, by rw [q_216_10, if_pos (Int.le_refl _)], h⟩
/-- a round of the reference's search: n is its number, all before place j are asked -/
def MI (g : Int → Int) (s n j any : Int) (f : Int → Int) : Prop :=
  (∀ k, rgC k → (-1 ≤ f k ∧ f k ≤ n) ∧ (0 ≤ f k → ori g s f k)) ∧ f s = 0 ∧
  (∀ k l, rgC k → rgC l → nbr k l → opC g l → 0 ≤ f k → f k < n - 1 → 0 ≤ f l ∧ f l ≤ f k + 1) ∧
  (∀ k l, rgC k → rgC l → l < j → nbr k l → opC g l → f k = n - 1 → 0 ≤ f l) ∧
  (any = 0 → ∀ k, rgC k → f k < n) ∧
  (n ≤ cn (fun k => 0 ≤ f k) 384 ∧ (any = 1 → n + 1 ≤ cn (fun k => 0 ≤ f k) 384))
theorem MI_y {s n j any : Int} {f : Int → Int} (h : MI g s n j any f) (hn : 1 ≤ n) (hj : rgC j) (ho : opC g j) (hf : f j = -1) (hb : ∃ l, rgC l ∧ nbr j l ∧ f l = n - 1) : MI g s n (j + 1) 1 (up1 f j n) := by
  obtain ⟨m1, m2, m3, m4, m5, m6, m7⟩ := h
  have old : ∀ k, 0 ≤ f k → up1 f j n k = f k := fun k z => up1_n (fun e => by rw [e] at z; omega)
  have lt : ∀ k, up1 f j n k < n → k ≠ j ∧ up1 f j n k = f k := fun k z => by
    have e : k ≠ j := fun e => by rw [e, up1_s] at z; omega
    exact ⟨e, up1_n e⟩
  obtain ⟨l, l0, l1, l2⟩ := hb
  have more := cn_lt (p := fun k => 0 ≤ f k) (q := fun k => 0 ≤ up1 f j n k) (n := 384) hj (by rw [up1_s]; omega) (by omega) (fun k _ _ z => by rw [old k z]; exact z)
  refine ⟨fun k hk => ?_, by rw [old s (by omega)]; exact m2, fun k q hk hq a b c e => ?_, fun k q hk hq a b c e => ?_, fun z => absurd z (by decide), by omega, fun _ => by omega⟩
  · by_cases e : k = j
    · rw [e, up1_s]
      exact ⟨by omega, fun _ => ⟨ho, Or.inr ⟨l, l0, nbr_sy hj l1, by rw [old l (by omega)]; omega, by rw [old l (by omega), up1_s, l2]⟩⟩⟩
    · rw [up1_n e]
      refine ⟨(m1 k hk).1, fun z => ?_⟩
      obtain ⟨o, w⟩ := (m1 k hk).2 z
      refine ⟨o, ?_⟩
      rcases w with ⟨w1, w2⟩ | ⟨q, q0, q1, q2, q3⟩
      · exact Or.inl ⟨by rw [up1_n e]; exact w1, w2⟩
      · exact Or.inr ⟨q, q0, q1, by rw [old q q2]; exact q2, by rw [old q q2, up1_n e]; exact q3⟩
  · have lk := lt k (by omega)
    rw [lk.2] at c e ⊢
    have w := m3 k q hk hq a b c e
    rw [old q w.1]
    exact w
  · have lk := lt k (by omega)
    rw [lk.2] at e
    by_cases eq : q = j
    · rw [eq, up1_s]; omega
    · have w := m4 k q hk hq (by omega) b c e
      rw [old q w]
      exact w
theorem MI_n {s n j any : Int} {f : Int → Int} (h : MI g s n j any f) (hj : rgC j) (hf : opC g j → 0 ≤ f j ∨ ∀ l, rgC l → nbr l j → f l ≠ n - 1) : MI g s n (j + 1) any f := by
  obtain ⟨m1, m2, m3, m4, m5, m6⟩ := h
  refine ⟨m1, m2, m3, fun k q hk hq a b c e => ?_, m5, m6⟩
  by_cases eq : q = j
  · subst eq
    rcases hf c with z | z
    · exact z
    · exact absurd e (z k hk b)
  · exact m4 k q hk hq (by omega) b c e
theorem MI_next {s n : Int} {f : Int → Int} (h : MI g s n 384 1 f) (hn : 1 ≤ n) : MI g s (n + 1) 0 0 f := by
  obtain ⟨m1, m2, m3, m4, m5, m6, m7⟩ := h
  refine ⟨fun k hk => ⟨⟨(m1 k hk).1.1, by have := (m1 k hk).1.2; omega⟩, (m1 k hk).2⟩, m2, fun k q hk hq a b c e => ?_, fun k q hk hq a => absurd hq.1 (by omega), fun _ k hk => by have := (m1 k hk).1.2; omega, m7 rfl, fun z => absurd z (by decide)⟩
  by_cases z : f k < n - 1
  · exact m3 k q hk hq a b c z
  · have w := m4 k q hk hq hq.2 a b (by omega)
    have := (m1 q hq).1.2
    omega
theorem MI_end {s n : Int} {f : Int → Int} (h : MI g s n 384 0 f) : crt g s f := by
  obtain ⟨m1, m2, m3, m4, m5, m6, m7⟩ := h
  refine ⟨fun k hk => ⟨(m1 k hk).1.1, (m1 k hk).2⟩, m2, fun k q hk hq a b c => ?_⟩
  have z := m5 rfl k hk
  by_cases y : f k < n - 1
  · exact m3 k q hk hq a b c y
  · have w := m4 k q hk hq hq.2 a b (by omega)
    have := m5 rfl q hq
    omega
/-- the same but for the search's rows -/
def f2 (M M' : ZM) : Prop := ∀ b, b ≠ 150 → b ≠ 151 → M' b = M b
theorem f2_m {M M' : ZM} (h : f2 M M') : fm M M' := ⟨fun b hb => h b (by omega) (by omega), fun f _ => by rw [h 138 (by omega) (by omega)]⟩
theorem m_steps {x y x' y' : Int} (hw : WF (M 139)) (h1 : (0 ≤ x ∧ x < 24) ∧ 0 ≤ y ∧ y < 16) (h2 : (0 ≤ x' ∧ x' < 24) ∧ 0 ≤ y' ∧ y' < 16) (o1 : opC (M 139) (24 * y + x)) (o2 : opC (M 139) (24 * y' + x')) : ∃ M' f, E (d + 6) 217 [zR 138, zI x, zI y, zI x', zI y'] M = Rt (some (zI (if f (24 * y' + x') = -1 then -104 else f (24 * y' + x')))) M' ∧ fm M M' ∧ crt (M 139) (24 * y + x) f := by
  have hs : rgC (24 * y + x) := by unfold rgC; omega
  have ht : rgC (24 * y' + x') := by unfold rgC; omega
  have ws : zw (zw (24 * y) + x) = 24 * y + x := by unfold zw; omega
  have wt : zw (zw (24 * y') + x') = 24 * y' + x' := by unfold zw; omega
  rw [en_217, q_217_0, m_isCell, Cb_I, q_217_5, if_neg (bI_n0.2 h1), m_isCell, Cb_I, q_217_14, if_pos (bI_n0.2 h2), ws, m_isOpen hw hs, Cb_I, q_217_30, if_neg (bI_n0.2 o1), wt, m_isOpen hw ht, Cb_I, q_217_44, if_pos (bI_n0.2 o2)]
  generalize hg : M 139 = g at *
  generalize hsx : 24 * y + x = s at *
  generalize htx : 24 * y' + x' = to at *
  have gg : ∀ {M' : ZM}, f2 M M' → M' 139 = g := fun h => (h 139 (by decide) (by decide)).trans hg
  have hs' : 0 ≤ s ∧ s < 384 := hs
  have ht' : 0 ≤ to ∧ to < 384 := ht
  refine lpi (fun i (M1 : ZM) => Q (d + 5) 217 53 [zR 138, zI x, zI y, zI x', zI y', zI i, zU, zU] [] M1) (fun o => ∃ M' f, o = Rt (some (zI (if f to = -1 then -104 else f to))) M' ∧ fm M M' ∧ crt g s f) 384 (fun i M1 => f2 M M1 ∧ (∀ k, 0 ≤ k → k < i → M1 150 k = if k = s then 0 else -1) ∧ (∀ k, 0 ≤ k → k < i → M1 151 k = bI (opC g k))) ?_ ?_ 0 M (by omega) ⟨fun _ _ _ => rfl, fun k k0 k1 => absurd k1 (by omega), fun k k0 k1 => absurd k1 (by omega)⟩
  · rintro i M1 i0 i1 ⟨F1, a1, b1⟩
    refine Or.inr ⟨zwr (zwr M1 150 i (if i = s then 0 else -1)) 151 i (bI (opC g i)), ?_, ?_, ?_, ?_⟩
    · have F2 : f2 M (zwr M1 150 i (if i = s then 0 else -1)) := fun b p q => by rw [zwr_n p]; exact F1 b p q
      have op := m_isOpen (d := d) (M := zwr M1 150 i (if i = s then 0 else -1)) (k := i) (by rw [gg F2]; exact hw) ⟨i0, i1⟩
      rw [gg F2] at op
      rw [q_217_53, if_neg (by omega), ws]
      by_cases e : i = s
      · rw [if_pos e] at op ⊢
        rw [if_neg (fun q => q e), if_pos ⟨i0, i1⟩, op, Cb_I, q_217_96, if_pos ⟨⟨i0, i1⟩, bI_01⟩, zw_id (by omega)]
      · rw [if_neg e] at op ⊢
        rw [if_pos e, if_pos ⟨i0, i1⟩, op, Cb_I, q_217_96, if_pos ⟨⟨i0, i1⟩, bI_01⟩, zw_id (by omega)]
    · intro b p q
      rw [zwr_n q, zwr_n p]
      exact F1 b p q
    · intro k k0 k1
      rw [zwr_ne (by decide)]
      by_cases e : k = i
      · rw [e, zwr_at]
      · rw [zwr_nj e]
        exact a1 k k0 (by omega)
    · intro k k0 k1
      by_cases e : k = i
      · rw [e, zwr_at]
      · rw [zwr_nj e, zwr_ne (by decide)]
        exact b1 k k0 (by omega)
  · rintro M1 ⟨F1, a1, b1⟩
    rw [q_217_53, if_pos (Int.le_refl _)]
    have fin : ∀ (M2 : ZM) (n : Int) (z : ZV), f2 M M2 → crt g s (M2 150) → ∃ M' f, Q (d + 5) 217 109 [zR 138, zI x, zI y, zI x', zI y', zI 0, zI n, z] [] M2 = Rt (some (zI (if f to = -1 then -104 else f to))) M' ∧ fm M M' ∧ crt g s f := by
      intro M2 n z F2 c2
      refine ⟨M2, M2 150, ?_, f2_m F2, c2⟩
      rw [q_217_109, if_pos rfl, wt, if_pos ht']
      by_cases e : M2 150 to = -1
      · rw [if_neg (fun q => q e), if_pos e]
      · rw [if_pos e, if_neg e]
    have m0 : MI g s 1 0 0 (M1 150) := by
      have v : ∀ k, rgC k → M1 150 k = 0 ∧ k = s ∨ M1 150 k = -1 ∧ k ≠ s := fun k hk => by
        rw [a1 k hk.1 hk.2]
        by_cases e : k = s
        · rw [if_pos e]; exact Or.inl ⟨rfl, e⟩
        · rw [if_neg e]; exact Or.inr ⟨rfl, e⟩
      refine ⟨fun k hk => ?_, ?_, fun k l hk hl a b c e => absurd c (by omega), fun k l hk hl a => absurd hl.1 (by omega), fun _ k hk => ?_, ?_, fun z => absurd z (by decide)⟩
      · rcases v k hk with ⟨p, q⟩ | ⟨p, q⟩
        · exact ⟨by omega, fun _ => ⟨by rw [q]; exact o1, Or.inl ⟨p, q⟩⟩⟩
        · exact ⟨by omega, fun z => absurd z (by omega)⟩
      · have := v s hs
        omega
      · have := v k hk
        omega
      · have := v s hs
        exact cn_pos hs' (by omega)
    refine lpi (fun n (w : ZM × ZV) => Q (d + 5) 217 109 [zR 138, zI x, zI y, zI x', zI y', zI 1, zI (n + 1), w.2] [] w.1) (fun o => ∃ M' f, o = Rt (some (zI (if f to = -1 then -104 else f to))) M' ∧ fm M M' ∧ crt g s f) 384 (fun n w => f2 M w.1 ∧ w.1 151 = M1 151 ∧ MI g s (n + 1) 0 0 (w.1 150)) ?_ ?_ 0 (M1, zU) (by omega) ⟨F1, rfl, by dsimp only; rw [Int.zero_add]; exact m0⟩
    · rintro n ⟨M2, z⟩ n0 n1 ⟨F2, e51, m2⟩
      dsimp only at F2 e51 m2 ⊢
      rw [q_217_109, if_neg (by decide)]
      refine lpi (fun j (w : ZM × Int) => Q (d + 5) 217 120 [zR 138, zI x, zI y, zI x', zI y', zI w.2, zI (n + 1), zI j] [] w.1) (fun o => (∃ M' f, o = Rt (some (zI (if f to = -1 then -104 else f to))) M' ∧ fm M M' ∧ crt g s f) ∨ ∃ s' : ZM × ZV, o = Q (d + 5) 217 109 [zR 138, zI x, zI y, zI x', zI y', zI 1, zI (n + 1 + 1), s'.2] [] s'.1 ∧ f2 M s'.1 ∧ s'.1 151 = M1 151 ∧ MI g s (n + 1 + 1) 0 0 (s'.1 150)) 384 (fun j w => f2 M w.1 ∧ w.1 151 = M1 151 ∧ (w.2 = 0 ∨ w.2 = 1) ∧ MI g s (n + 1) j w.2 (w.1 150)) ?_ ?_ 0 (M2, 0) (by omega) ⟨F2, e51, Or.inl rfl, m2⟩
      · rintro j ⟨M3, a⟩ j0 j1 ⟨F3, e3, a3, m3⟩
        dsimp only at F3 e3 a3 m3 ⊢
        have hj : rgC j := ⟨j0, j1⟩
        refine Or.inr ?_
        rw [q_217_120, if_neg (by omega), if_pos ⟨j0, j1⟩, e3, b1 j j0 j1, zw_id (x := j + 1) (by omega)]
        by_cases o : opC g j
        · rw [if_neg (bI_n0.2 o), if_pos ⟨j0, j1⟩]
          by_cases u : M3 150 j = -1
          · obtain ⟨v, ev, av⟩ := m_around (d := d + 4) (M := M3) hj
            rw [if_neg (fun q => q u), ev, Cb_I, q_217_155, zw_id (x := n + 1 - 1) (by omega), show n + 1 - 1 = n by omega, zw_id (x := j + 1) (by omega)]
            have low : ∀ l, rgC l → nbr j l → 0 ≤ M3 150 l → n ≤ M3 150 l := by
              intro l l0 l1 l2
              refine Int.not_lt.1 fun q => ?_
              have := m3.2.2.1 l j l0 hj (nbr_sy hj l1) o l2 (by omega)
              omega
            by_cases k : v = n
            · rw [if_neg (fun q => q k), if_pos ⟨j0, j1⟩]
              refine ⟨(zwr M3 150 j (n + 1), 1), rfl, fun b p q => by dsimp only; rw [zwr_n p]; exact F3 b p q, by dsimp only; rw [zwr_n (by decide)]; exact e3, Or.inr rfl, ?_⟩
              dsimp only
              rw [zwr_u]
              refine MI_y m3 (by omega) hj o u ?_
              rcases av with ⟨p, _⟩ | ⟨⟨t, t0, t1, t2⟩, _, _⟩
              · omega
              · exact ⟨j + off t, al_rg hj t0 t1, ⟨t, t0, t1, rfl⟩, by omega⟩
            · rw [if_pos k]
              refine ⟨(M3, a), rfl, F3, e3, a3, MI_n m3 hj (fun _ => Or.inr (fun l l0 l1 l2 => ?_))⟩
              have l2 : M3 150 l = n + 1 - 1 := l2
              obtain ⟨t, t0, t1, t2⟩ := nbr_sy l0 l1
              rcases av with ⟨p, q⟩ | ⟨⟨w, w0, w1, w2⟩, q1, q2⟩
              · have := q t t0.1 t0.2 t1
                rw [← t2] at this
                omega
              · have := q2 t t0.1 t0.2 t1 (by rw [← t2]; omega)
                rw [← t2] at this
                have := low (j + off w) (al_rg hj w0 w1) ⟨w, w0, w1, rfl⟩ (by omega)
                omega
          · rw [if_pos u]
            exact ⟨(M3, a), rfl, F3, e3, a3, MI_n m3 hj (fun _ => Or.inl (show 0 ≤ M3 150 j by have := (m3.1 j hj).1.1; omega))⟩
        · rw [if_pos (bI_0.2 o)]
          exact ⟨(M3, a), rfl, F3, e3, a3, MI_n m3 hj (fun z => absurd z o)⟩
      · rintro ⟨M3, a⟩ ⟨F3, e3, a3, m3⟩
        dsimp only at F3 e3 a3 m3 ⊢
        rw [q_217_120, if_pos (Int.le_refl _), zw_id (x := n + 1 + 1) (by omega)]
        rcases a3 with a3 | a3
        · subst a3
          exact Or.inl (fin M3 _ _ F3 (MI_end m3))
        · subst a3
          exact Or.inr ⟨(M3, zI 384), rfl, F3, e3, MI_next m3 (by omega)⟩
    · rintro ⟨M2, z⟩ ⟨F2, e51, m2⟩
      dsimp only at m2
      have := m2.2.2.2.2.2.1
      have := cn_le (p := fun k => 0 ≤ M2 150 k) (n := 384) (by omega)
      omega
theorem o_steps {x y x' y' : Int} (hw : WF (M 139)) (hd : dgr M 1 (M 139)) : qok (d + 12) 126 217 [zI x, zI y, zI x', zI y'] M := by
  have done : ∀ (v : Int) (M1 : ZM), frr 109 137 M M1 → E (d + 12) 126 [zR 0, zI x, zI y, zI x', zI y'] M = Rt (some (zI v)) M1 → E (d + 12) 217 [zR 138, zI x, zI y, zI x', zI y'] M1 = Rt (some (zI v)) M1 → qok (d + 12) 126 217 [zI x, zI y, zI x', zI y'] M := fun v M1 f h1 h2 => ⟨zI v, M1, M1, h1, f, h2, fm_r⟩
  have ex : E (d + 12) 126 [zR 0, zI x, zI y, zI x', zI y'] M = Q (d + 11) 126 13 [zR 0, zI x, zI y, zI x', zI y', zI (cel x y), zU] [zI (cel x' y')] M := by rw [en_126, q_126_0, x_cellAt, Cb_I, q_126_5, x_cellAt, Cb_I]
  have em : ∀ N : ZM, E (d + 12) 217 [zR 138, zI x, zI y, zI x', zI y'] N = Q (d + 11) 217 5 [zR 138, zI x, zI y, zI x', zI y', zU, zU, zU] [zI (bI ((0 ≤ x ∧ x < 24) ∧ 0 ≤ y ∧ y < 16))] N := fun N => by rw [en_217, q_217_0, m_isCell, Cb_I]
  rw [q_126_13] at ex
  by_cases h1 : (0 ≤ x ∧ x < 24) ∧ 0 ≤ y ∧ y < 16
  · have c1 : cel x y = 24 * y + x := if_pos h1
    have r1 : rgC (24 * y + x) := by unfold rgC; omega
    rw [c1, if_neg (by omega)] at ex
    by_cases h2 : (0 ≤ x' ∧ x' < 24) ∧ 0 ≤ y' ∧ y' < 16
    · have c2 : cel x' y' = 24 * y' + x' := if_pos h2
      have r2 : rgC (24 * y' + x') := by unfold rgC; omega
      obtain ⟨M1, e1, f1, t1, t2, t3⟩ := x_draw (d := d + 7) hw hd
      have g1 : M1 139 = M 139 := f1 139 (by omega)
      have f1' : frr 109 137 M M1 := frr_v f1 (by omega) (by omega)
      have hw1 : WF (M1 139) := by rw [g1]; exact hw
      have ws : zw (zw (24 * y) + x) = 24 * y + x := by unfold zw; omega
      have wt : zw (zw (24 * y') + x') = 24 * y' + x' := by unfold zw; omega
      have em1 := em M1
      rw [q_217_5, if_neg (bI_n0.2 h1), m_isCell, Cb_I, q_217_14, if_pos (bI_n0.2 h2), ws, m_isOpen hw1 r1, Cb_I, q_217_30, g1] at em1
      rw [c2, if_pos (by omega), e1, Cb_V, q_126_41, x_isFloor r1 t1 t2, Cb_I, q_126_50] at ex
      by_cases o1 : opC (M 139) (24 * y + x)
      · rw [if_neg (bI_n0.2 o1), x_isFloor r2 t1 t2, Cb_I, q_126_62] at ex
        rw [if_neg (bI_n0.2 o1), wt, m_isOpen hw1 r2, Cb_I, q_217_44, g1] at em1
        by_cases o2 : opC (M 139) (24 * y' + x')
        · obtain ⟨M2, f, e2, f2', c2'⟩ := x_steps (d := d + 8) r1 r2 o1 t1 t2
          have g2 : M2 139 = M 139 := (f2' 139 (by omega)).trans g1
          obtain ⟨M3, f', e3, f3', c3'⟩ := m_steps (d := d + 6) (M := M2) (by rw [g2]; exact hw) h1 h2 (by rw [g2]; exact o1) (by rw [g2]; exact o2)
          rw [g2] at c3'
          rw [← crt_un c2' c3' r2] at e3
          rw [if_pos (bI_n0.2 o2), e2, Cb_I, q_126_79] at ex
          exact ⟨_, M2, M3, ex, frr_t f1' f2', e3, f3'⟩
        · rw [if_neg (fun q => q (bI_0.2 o2))] at ex em1
          exact done _ M1 f1' ex em1
      · rw [if_pos (bI_0.2 o1)] at ex em1
        exact done _ M1 f1' ex em1
    · have c2 : cel x' y' = -1 := if_neg h2
      have em1 := em M
      rw [q_217_5, if_neg (bI_n0.2 h1), m_isCell, Cb_I, q_217_14, if_neg (fun q => q (bI_0.2 h2))] at em1
      rw [c2, if_neg (fun q => q rfl)] at ex
      exact done _ M frr_r ex em1
  · have c1 : cel x y = -1 := if_neg h1
    have em1 := em M
    rw [q_217_5, if_pos (bI_0.2 h1)] at em1
    rw [c1, if_pos rfl] at ex
    exact done _ M frr_r ex em1
end
