/-! walks: the class explores -/
section
variable {d : Nat} {M : ZM} {g : Int → Int}
theorem tr_open (hw : WF g) {s q : Int} (h : wayF g (s / 64) q ≠ -1) (k : gL g (wayF g (s / 64) q) = -1 ∨ hb (s % 64) (gL g (wayF g (s / 64) q))) : tr g s q = 64 * q + zor (s % 64) (kb g q) := by
  obtain ⟨c1, c2⟩ := wayF_c hw h
  have o := isW_oth hw c1 c2
  have e : gA g (wayF g (s / 64) q) = s / 64 ∨ gB g (wayF g (s / 64) q) = s / 64 := by
    unfold isW at c2
    omega
  unfold tr
  rw [if_neg h]
  unfold thr
  rw [if_pos e, o]
  by_cases l : gL g (wayF g (s / 64) q) = -1
  · rw [if_pos l]
  · have k : hb (s % 64) (gL g (wayF g (s / 64) q)) := k.resolve_left l
    unfold hb at k
    rw [if_neg l, if_pos k]
theorem tr_shut (hw : WF g) {s q : Int} (k : ¬ (gL g (wayF g (s / 64) q) = -1 ∨ hb (s % 64) (gL g (wayF g (s / 64) q)))) : tr g s q = -1 := by
  unfold tr
  by_cases h : wayF g (s / 64) q = -1
  · rw [if_pos h]
  · rw [if_neg h]
    have k2 : ¬ (zand (zshr (s % 64) (gL g (wayF g (s / 64) q))) 1 ≠ 0) := fun z => k (Or.inr z)
    have k1 : ¬ (gL g (wayF g (s / 64) q) = -1) := fun z => k (Or.inl z)
    unfold thr
    by_cases e : gA g (wayF g (s / 64) q) = s / 64 ∨ gB g (wayF g (s / 64) q) = s / 64
    · rw [if_pos e, if_neg k1, if_neg k2]
    · rw [if_neg e]
theorem wq_L {t : Int → Int → Int} {s0 nr n h q : Int} {S O L T F : Int → Int} (w : wq t s0 nr S O L T F n h q) : ∀ k : Nat, ∀ i, 0 ≤ i → i < n → i ≤ k → 0 ≤ L i ∧ L i ≤ i := by
  obtain ⟨⟨w1, w2⟩, ⟨a1, a2, a3⟩, ⟨w3, w4⟩, -⟩ := w
  intro k
  induction k with
  | zero =>
    intro i i0 i1 i2
    have e : i = 0 := by omega
    rw [e, a3]
    omega
  | succ k ih =>
    intro i i0 i1 i2
    by_cases e : i = 0
    · rw [e, a3]
      omega
    · obtain ⟨a, b, c⟩ := w3 i (by omega) i1
      have := ih (O i) a.1 (by omega) (by omega)
      omega
/-- the queue as the class has it -/
def wqM (M : ZM) (g : Int → Int) (h q : Int) : Prop := wq (tr g) (bgn g) (g 120) (xS M) (M 128) (M 129) (M 130) (M 131) (M 125 6) h q ∧ ∀ i, 0 ≤ i → i < M 125 6 → (0 ≤ M 126 i ∧ M 126 i < g 120) ∧ 0 ≤ M 127 i ∧ M 127 i < 64
theorem xan_r {st q k o n l : Int} : ∃ M', xan (xal M st q k o n l) q n = M' ∧ frr 125 131 M M' ∧ M' 125 6 = n + 1 ∧ M' 126 = up1 (M 126) n q ∧ M' 127 = up1 (M 127) n k ∧ M' 128 = up1 (M 128) n o ∧ M' 129 = up1 (M 129) n l ∧ M' 130 = up1 (M 130) st 1 ∧ ∀ r, M' 131 r = if r = q ∧ M 131 q = -1 then n else M 131 r := by
  have e1 : (xal M st q k o n l) 131 = M 131 := by
    unfold xal
    rw [zwr_n (by decide), zwr_n (by decide), zwr_n (by decide), zwr_n (by decide), zwr_n (by decide)]
  refine ⟨_, rfl, fun b hb => ?_, ?_, ?_, ?_, ?_, ?_, ?_, fun r => ?_⟩
  · unfold xan xal
    rw [zwr_n (by omega)]
    split
    · rw [zwr_n (by omega), zwr_n (by omega), zwr_n (by omega), zwr_n (by omega), zwr_n (by omega), zwr_n (by omega)]
    · rw [zwr_n (by omega), zwr_n (by omega), zwr_n (by omega), zwr_n (by omega), zwr_n (by omega)]
  · unfold xan
    rw [zwr_at]
  · unfold xan xal
    rw [zwr_n (by decide)]
    split
    · rw [zwr_n (by decide), zwr_n (by decide), zwr_n (by decide), zwr_n (by decide), zwr_u, zwr_n (by decide)]
    · rw [zwr_n (by decide), zwr_n (by decide), zwr_n (by decide), zwr_u, zwr_n (by decide)]
  · unfold xan xal
    rw [zwr_n (by decide)]
    split
    · rw [zwr_n (by decide), zwr_n (by decide), zwr_n (by decide), zwr_u, zwr_n (by decide), zwr_n (by decide)]
    · rw [zwr_n (by decide), zwr_n (by decide), zwr_u, zwr_n (by decide), zwr_n (by decide)]
  · unfold xan xal
    rw [zwr_n (by decide)]
    split
    · rw [zwr_n (by decide), zwr_n (by decide), zwr_u, zwr_n (by decide), zwr_n (by decide), zwr_n (by decide)]
    · rw [zwr_n (by decide), zwr_u, zwr_n (by decide), zwr_n (by decide), zwr_n (by decide)]
  · unfold xan xal
    rw [zwr_n (by decide)]
    split
    · rw [zwr_n (by decide), zwr_u, zwr_n (by decide), zwr_n (by decide), zwr_n (by decide), zwr_n (by decide)]
    · rw [zwr_u, zwr_n (by decide), zwr_n (by decide), zwr_n (by decide), zwr_n (by decide)]
  · unfold xan xal
    rw [zwr_n (by decide)]
    split
    · rw [zwr_n (by decide), zwr_n (by decide), zwr_n (by decide), zwr_n (by decide), zwr_n (by decide), zwr_u]
    · rw [zwr_n (by decide), zwr_n (by decide), zwr_n (by decide), zwr_n (by decide), zwr_u]
  · unfold xan
    rw [zwr_ne (by decide), e1]
    by_cases c : M 131 q = -1
    · rw [if_pos c, zwr_u, e1]
      by_cases e : r = q
      · rw [e, up1_s, if_pos ⟨rfl, c⟩]
      · rw [up1_n e, if_neg (fun z => e z.1)]
    · rw [if_neg c, if_neg (fun z => c z.2), e1]
/-- one room for a line -/
theorem x_goOn1 {h q : Int} {z4 : ZV} (hw : WF g) (hd : dgr M 1 g) (w : wqM M g h q) (hh : h < M 125 6) (hq : 0 ≤ q ∧ q < g 120) : ∃ M' z, Q (d + 3) 99 2 [zR 125, zR 1, zI h, zI q, z4] [] M = Q (d + 3) 99 2 [zR 125, zR 1, zI h, zI (q + 1), z] [] M' ∧ frr 125 131 M M' ∧ wqM M' g h (q + 1) ∧ M 125 6 ≤ M' 125 6 := by
  obtain ⟨w, v⟩ := w
  have hR := wf_R hw
  have n7 := wq_n w
  have h0 : 0 ≤ h := w.1.2
  obtain ⟨v1, v2⟩ := v h h0 hh
  have s1 : xS M h / 64 = M 126 h := by unfold xS; omega
  have s2 : xS M h % 64 = M 127 h := by unfold xS; omega
  have T := tr_T hw
  have skip : ∀ z, Q (d + 3) 99 2 [zR 125, zR 1, zI h, zI q, z4] [] M = Q (d + 3) 99 2 [zR 125, zR 1, zI h, zI (q + 1), z] [] M → (tr g (xS M h) q = -1 ∨ M 130 (tr g (xS M h) q) ≠ 0) → ∃ M' z, Q (d + 3) 99 2 [zR 125, zR 1, zI h, zI q, z4] [] M = Q (d + 3) 99 2 [zR 125, zR 1, zI h, zI (q + 1), z] [] M' ∧ frr 125 131 M M' ∧ wqM M' g h (q + 1) ∧ M 125 6 ≤ M' 125 6 := fun z e k => ⟨M, z, e, frr_r, ⟨wq_skip w T hR.2 hh hq k, v⟩, Int.le_refl _⟩
  have e0 : Q (d + 3) 99 2 [zR 125, zR 1, zI h, zI q, z4] [] M = Q (d + 3) 99 21 [zR 125, zR 1, zI h, zI q, z4] [zI (wayF g (M 126 h) q)] M := by
    rw [q_99_2, h1R hd, if_neg (by omega), if_pos (by omega), x_between hw hd, Cb_I]
  by_cases a : wayF g (M 126 h) q = -1
  · refine skip (zI (wayF g (M 126 h) q)) ?_ (Or.inl (by unfold tr; rw [s1, if_pos a]))
    rw [e0, q_99_21, if_pos a, q_99_51, zw_id (by omega)]
  · have cc := wayF_c hw a
    have e1 : Q (d + 3) 99 2 [zR 125, zR 1, zI h, zI q, z4] [] M = Q (d + 3) 99 41 [zR 125, zR 1, zI h, zI q, zI (wayF g (M 126 h) q)] [zI (bI (gL g (wayF g (M 126 h) q) = -1 ∨ hb (M 127 h) (gL g (wayF g (M 126 h) q))))] M := by
      rw [e0, q_99_21, if_neg a, if_pos (by omega), x_opens hw hd cc.1 (ST_hb v2), Cb_I]
    by_cases b : gL g (wayF g (M 126 h) q) = -1 ∨ hb (M 127 h) (gL g (wayF g (M 126 h) q))
    · have tv := tr_open hw (s := xS M h) (q := q) (by rw [s1]; exact a) (by rw [s1, s2]; exact b)
      rw [s2] at tv
      have lh := wq_L w h.toNat h h0 hh (by omega)
      have ad := x_addLine (d := d + 1) (q := q) (o := h) (K := M 127 h) hw hd hq (Or.inr ⟨by omega, rfl⟩) v2 (by have := w.1.1; omega) (fun _ => by omega)
      rw [← tv] at ad
      have sh := w.2.2.2.2.2.2.1 h h0 hh
      have sr := (T (xS M h) q sh.1 sh.2 hq.1 hq.2)
      by_cases c : M 130 (tr g (xS M h) q) ≠ 0
      · refine skip (zI (wayF g (M 126 h) q)) ?_ (Or.inr c)
        rw [e1, q_99_41, if_neg (bI_n0.2 b), ad, if_pos c, Cb_V, q_99_51, zw_id (by omega)]
      · have c' : M 130 (tr g (xS M h) q) = 0 := by omega
        have k6 := kb6 (wf_k hw hq)
        have zz := zor6 v2 k6
        have t1 : tr g (xS M h) q ≠ -1 := by omega
        rw [if_neg c] at ad
        obtain ⟨M', em, f, m5, m6, m7, m8, m9, m0, m1⟩ := xan_r (M := M) (st := tr g (xS M h) q) (q := q) (k := zor (M 127 h) (kb g q)) (o := h) (n := M 125 6) (l := M 129 h + 1)
        obtain ⟨w', lt⟩ := wq_add (F' := M' 131) (s := tr g (xS M h) q) w T hR.2 hh hq rfl t1 c' m1
        have sx : xS M' = up1 (xS M) (M 125 6) (tr g (xS M h) q) := funext fun i => by
          unfold xS
          rw [m6, m7]
          by_cases e : i = M 125 6
          · rw [e, up1_s, up1_s, up1_s]
            exact tv.symm
          · rw [up1_n e, up1_n e, up1_n e]
        rw [if_pos lt, if_neg (by omega), em] at ad
        refine ⟨M', zI (wayF g (M 126 h) q), ?_, f, ⟨?_, fun i i0 i1 => ?_⟩, by omega⟩
        · rw [e1, q_99_41, if_neg (bI_n0.2 b), ad, Cb_V, q_99_51, zw_id (by omega)]
        · rw [sx, m8, m9, m0, m5]
          exact w'
        · rw [m5] at i1
          rw [m6, m7]
          by_cases e : i = M 125 6
          · rw [e, up1_s, up1_s]
            exact ⟨hq, zz.1⟩
          · rw [up1_n e, up1_n e]
            exact v i i0 (by omega)
    · have tv := tr_shut hw (s := xS M h) (q := q) (by rw [s1, s2]; exact b)
      refine skip (zI (wayF g (M 126 h) q)) ?_ (Or.inl tv)
      rw [e1, q_99_41, if_pos (bI_0.2 b), q_99_51, zw_id (by omega)]
theorem x_goOn {h : Int} (hw : WF g) (hd : dgr M 1 g) (w : wqM M g h 0) (hh : h < M 125 6) : ∃ M', E (d + 4) 99 [zR 125, zR 1, zI h] M = Rt none M' ∧ frr 125 131 M M' ∧ wqM M' g (h + 1) 0 := by
  have hR := wf_R hw
  rw [en_99, q_99_0]
  refine lpi (fun q (s : ZM × ZV) => Q (d + 3) 99 2 [zR 125, zR 1, zI h, zI q, s.2] [] s.1) (fun o => ∃ M', o = Rt none M' ∧ frr 125 131 M M' ∧ wqM M' g (h + 1) 0) (g 120) (fun q s => frr 125 131 M s.1 ∧ wqM s.1 g h q ∧ h < s.1 125 6) ?_ ?_ 0 (M, zU) (by omega) ⟨frr_r, w, hh⟩
  · rintro q ⟨M1, z4⟩ q0 q1 ⟨h1, h2, h3⟩
    dsimp only at h1 h2 h3 ⊢
    obtain ⟨M2, z, e, f, w2, l⟩ := x_goOn1 (d := d) (z4 := z4) hw (frr_d h1 (by decide) hd) h2 h3 ⟨q0, q1⟩
    exact Or.inr ⟨(M2, z), e, frr_t h1 f, w2, by dsimp only; omega⟩
  · rintro ⟨M1, z4⟩ ⟨h1, h2, h3⟩
    dsimp only at h1 h2 h3 ⊢
    refine ⟨M1, ?_, h1, wq_line h2.1, h2.2⟩
    rw [q_99_2, h1R (frr_d h1 (by decide) hd), if_pos (Int.le_refl _)]
/-- the class's queue when all is explored -/
theorem x_explore (hw : WF g) (hd : dgr M 1 g) (h0 : 0 < g 120) : ∃ M', E (d + 6) 98 [zR 125, zR 1] M = Rt none M' ∧ frr 125 131 M M' ∧ wx (tr g) (bgn g) (g 120) (xS M') (M' 128) (M' 129) (M' 131) (M' 125 6) ∧ (M' 125 6 ≤ 768 ∧ ∀ i, 0 ≤ i → i < M' 125 6 → (0 ≤ M' 126 i ∧ M' 126 i < g 120) ∧ 0 ≤ M' 127 i ∧ M' 127 i < 64) := by
  have hR := wf_R hw
  have hE := wf_E hw
  obtain ⟨M1, e1, f1, a1⟩ := x_fill (d := d + 4) (r := 130) (w := 768) (M := M) (by decide) (by decide) (by decide) 0
  obtain ⟨M2, e2, f2, a2⟩ := x_fill (d := d + 4) (r := 131) (w := 12) (M := M1) (by decide) (by decide) (by decide) (-1)
  generalize hM3 : zwr M2 125 6 0 = M3
  have f3 : frr 125 131 M M3 := by
    rw [← hM3]
    exact frr_w (frr_t (frr_1 f1 (by decide) (by decide)) (frr_1 f2 (by decide) (by decide))) (by decide) (by decide)
  have d3 := frr_d f3 (by decide) hd
  have n3 : M3 125 6 = 0 := by rw [← hM3, zwr_at]
  have m130 : ∀ s, 0 ≤ s → s < 768 → M3 130 s = 0 := fun s s0 s1 => by
    rw [← hM3, zwr_n (by decide), f2 130 (by decide)]
    exact a1 s s0 s1
  have m131 : ∀ s, 0 ≤ s → s < 12 → M3 131 s = -1 := fun s s0 s1 => by
    rw [← hM3, zwr_n (by decide)]
    exact a2 s s0 s1
  have kk := kb6 (wf_k hw (r := g 122) (by omega))
  have ad := x_addLine (d := d + 3) (M := M3) (q := g 122) (o := -1) (K := 0) hw d3 (by omega) (Or.inl ⟨rfl, rfl⟩) (by decide) (by omega) (fun z => absurd rfl z)
  have z0 : zor 0 (kb g (g 122)) = kb g (g 122) := by
    rw [(zor6 (x := 0) (by decide) kk).2]
    exact zor_0 kk
  have bg := bgn_rg hw h0
  rw [z0] at ad
  have eb : 64 * g 122 + kb g (g 122) = bgn g := rfl
  rw [eb, m130 _ bg.1.1 (by omega), if_neg (by decide), n3, if_pos (by decide), if_pos rfl] at ad
  obtain ⟨M4, em, f, m5, m6, m7, m8, m9, m0, m1⟩ := xan_r (M := M3) (st := bgn g) (q := g 122) (k := kb g (g 122)) (o := -1) (n := 0) (l := 0)
  rw [em] at ad
  have xs0 : xS M4 0 = bgn g := by
    unfold xS
    rw [m6, m7, up1_s, up1_s]
    rfl
  have f4 := frr_t f3 f
  have d4 := frr_d f4 (by decide) hd
  have w4 : wqM M4 g 0 0 := by
    refine ⟨⟨⟨by omega, Int.le_refl _⟩, ⟨xs0, by rw [m8, up1_s], by rw [m9, up1_s]⟩, ⟨fun i i0 i1 => by omega, fun i i0 i1 => by omega⟩, fun i j i0 ij j1 => by omega, fun i r i0 i1 r0 r1 ir => by omega, fun r r0 r1 => ?_, fun i i0 i1 => ?_, fun s s0 s1 => ?_, ?_⟩, fun i i0 i1 => ?_⟩
    · by_cases e : r = g 122
      · refine Or.inr ⟨?_, ?_, fun i i0 i1 => ?_⟩
        · rw [m1, if_pos ⟨e, m131 _ (by omega) (by omega)⟩]
          omega
        · rw [m1, if_pos ⟨e, m131 _ (by omega) (by omega)⟩, xs0, bg.2, e]
        · rw [m1, if_pos ⟨e, m131 _ (by omega) (by omega)⟩] at i1
          omega
      · refine Or.inl ⟨by rw [m1, if_neg (fun z => e z.1)]; exact m131 r r0 (by omega), fun i i0 i1 => ?_⟩
        have : i = 0 := by omega
        rw [this, xs0, bg.2]
        exact fun z => e z.symm
    · have : i = 0 := by omega
      rw [this, xs0]
      exact bg.1
    · rw [m0]
      by_cases e : s = bgn g
      · rw [e, up1_s]
        exact ⟨fun _ => ⟨0, by omega, xs0⟩, fun _ => by decide⟩
      · rw [up1_n e, m130 s s0 s1]
        refine ⟨fun z => absurd rfl z, fun ⟨i, i1, i2⟩ => ?_⟩
        have : i = 0 := by omega
        rw [this, xs0] at i2
        exact absurd i2.symm e
    · have c0 := cn_add (p := fun _ => False) (q := fun s => M4 130 s ≠ 0) (j := bgn g) (n := 768) (by omega) (fun z => z) (fun k k0 k1 => by
        rw [m0]
        by_cases e : k = bgn g
        · rw [e, up1_s]
          exact ⟨fun _ => Or.inr rfl, fun _ => by decide⟩
        · rw [up1_n e, m130 k k0 k1]
          exact ⟨fun z => absurd rfl z, fun z => z.elim False.elim (fun y => absurd y e)⟩)
      have cz : cn (fun _ => False) 768 = 0 := by
        have h1 := cn_le (p := fun _ : Int => False) (n := 768) (by decide)
        by_cases z : cn (fun _ => False) 768 = 0
        · exact z
        · exact absurd (cn_sur (p := fun _ => False) 768 0 (by decide) (by show (0 : Int) < cn (fun _ => False) 768; omega)) (fun ⟨e, _, k, _⟩ => k)
      rw [c0, cz, m5]
    · have : i = 0 := by omega
      rw [this, m6, m7, up1_s, up1_s]
      omega
  have e6 : E (d + 6) 98 [zR 125, zR 1] M = Q (d + 5) 98 41 [zR 125, zR 1, zI 0] [] M4 := by
    rw [en_98, q_98_0, e1, Cb_V, q_98_8, e2, Cb_V, q_98_16, hM3, h1R d3, if_pos (by omega), h1E d3, ad, Cb_V, q_98_39]
  rw [e6]
  refine lpi (fun h M' => Q (d + 5) 98 41 [zR 125, zR 1, zI h] [] M') (fun o => ∃ M', o = Rt none M' ∧ frr 125 131 M M' ∧ wx (tr g) (bgn g) (g 120) (xS M') (M' 128) (M' 129) (M' 131) (M' 125 6) ∧ (M' 125 6 ≤ 768 ∧ ∀ i, 0 ≤ i → i < M' 125 6 → (0 ≤ M' 126 i ∧ M' 126 i < g 120) ∧ 0 ≤ M' 127 i ∧ M' 127 i < 64)) 768 (fun h M' => frr 125 131 M M' ∧ wqM M' g h 0) ?_ ?_ 0 M4 (by decide) ⟨f4, w4⟩
  · rintro h M' h0 h1 ⟨k1, k2⟩
    rw [q_98_41, if_neg (by omega)]
    by_cases z : M' 125 6 ≤ h
    · exact Or.inl ⟨M', by rw [if_pos z], k1, wq_end k2.1 z, wq_n k2.1, k2.2⟩
    · obtain ⟨M5, e5, f5, w5⟩ := x_goOn (d := d + 1) hw (frr_d k1 (by decide) hd) k2 (by omega)
      exact Or.inr ⟨M5, by rw [if_neg z, e5, Cb_V, q_98_62, zw_id (by omega)], frr_t k1 f5, w5⟩
  · rintro M' ⟨k1, k2⟩
    have n7 := wq_n k2.1
    exact ⟨M', by rw [q_98_41, if_pos (Int.le_refl _)], k1, wq_end k2.1 n7, n7, k2.2⟩
end
