/-! the reference's visit -/
section
variable {d : Nat} {M : ZM}
theorem m_canGo {r wo nk nl : Int} {S : Int → Prop} (hw : WF (M 139)) (hS : ∀ s, 0 ≤ s → s < 12 → M 147 s = bI (S s)) (hK : ST (M 138 15) (fun k => kof (M 139) S k ∧ k ≠ nk)) : E (d + 2) 191 [zR 138, zI r, zI wo, zI nl] M = Rt (some (zI (bI (cgo (M 139) wo nk nl S r)))) M := by
  have hW := wf_W hw
  have hR := wf_R hw
  rw [en_191, q_191_0]
  generalize hg : M 139 = g at *
  refine lpi (fun i (s : Int × ZV × ZV × ZV × ZV) => Q (d + 1) 191 6 [zR 138, zI r, zI wo, zI nl, zI s.1, zI i, s.2.1, s.2.2.1, s.2.2.2.1, s.2.2.2.2] [] M) (fun o => o = Rt (some (zI (bI (cgo g wo nk nl S r)))) M) (g 121) (fun i s => s.1 = bI (∃ c, (0 ≤ c ∧ c < i) ∧ c ≠ wo ∧ opn g S (eqn nk) (eqn nl) c ∧ (gA g c = r ∧ S (gB g c) ∨ gB g c = r ∧ S (gA g c)))) ?_ ?_ 0 (0, zU, zU, zU, zU) (by omega) (bI_f (fun ⟨c, h0, _⟩ => by omega)).symm
  · rintro i ⟨a, z6, z7, z8, z9⟩ h0 h1 h2
    dsimp only at h2 ⊢
    have hab := wf_ab hw ⟨h0, h1⟩
    have hl := wf_l hw ⟨h0, h1⟩
    have hm := bI_01 (p := ∃ c, (0 ≤ c ∧ c < i) ∧ c ≠ wo ∧ opn g S (eqn nk) (eqn nl) c ∧ (gA g c = r ∧ S (gB g c) ∨ gB g c = r ∧ S (gA g c)))
    refine Or.inr ?_
    have stay : (¬ (i ≠ wo ∧ opn g S (eqn nk) (eqn nl) i ∧ (gA g i = r ∧ S (gB g i) ∨ gB g i = r ∧ S (gA g i)))) → a = bI (∃ c, (0 ≤ c ∧ c < i + 1) ∧ c ≠ wo ∧ opn g S (eqn nk) (eqn nl) c ∧ (gA g c = r ∧ S (gB g c) ∨ gB g c = r ∧ S (gA g c))) := by
      intro q
      rw [h2]
      refine bI_cg ⟨fun ⟨c, c1, c2⟩ => ⟨c, by omega, c2⟩, fun ⟨c, c1, c2⟩ => ?_⟩
      by_cases e : c = i
      · subst e
        exact absurd c2 q
      · exact ⟨c, by omega, c2⟩
    have yes1 : (a = 1 ∨ (i ≠ wo ∧ opn g S (eqn nk) (eqn nl) i ∧ (gA g i = r ∧ S (gB g i) ∨ gB g i = r ∧ S (gA g i)))) → 1 = bI (∃ c, (0 ≤ c ∧ c < i + 1) ∧ c ≠ wo ∧ opn g S (eqn nk) (eqn nl) c ∧ (gA g c = r ∧ S (gB g c) ∨ gB g c = r ∧ S (gA g c))) := by
      intro q
      refine (bI_t ?_).symm
      rcases q with q | q
      · obtain ⟨c, c1, c2⟩ := bI_1.1 (h2.symm.trans q)
        exact ⟨c, by omega, c2⟩
      · exact ⟨i, by omega, q⟩
    rw [q_191_6, hg, if_neg (by omega), m_a (by omega), Cb_I, q_191_25, m_b (by omega), Cb_I, q_191_34, m_l (by omega), Cb_I, hg]
    -- at 81: nothing
    have at81 : (¬ (gA g i = r ∧ S (gB g i) ∨ gB g i = r ∧ S (gA g i))) → ∀ z9 : ZV, ∃ s' : Int × ZV × ZV × ZV × ZV, Q (d + 1) 191 81 [zR 138, zI r, zI wo, zI nl, zI a, zI i, zI (gA g i), zI (gB g i), zI (gL g i), z9] [] M = Q (d + 1) 191 6 [zR 138, zI r, zI wo, zI nl, zI s'.1, zI (i + 1), s'.2.1, s'.2.2.1, s'.2.2.2.1, s'.2.2.2.2] [] M ∧ s'.1 = bI (∃ c, (0 ≤ c ∧ c < i + 1) ∧ c ≠ wo ∧ opn g S (eqn nk) (eqn nl) c ∧ (gA g c = r ∧ S (gB g c) ∨ gB g c = r ∧ S (gA g c))) := by
      intro q z9
      refine ⟨(a, zI (gA g i), zI (gB g i), zI (gL g i), zI 0), ?_, stay (fun z => q z.2.2)⟩
      rw [q_191_81, zw_id (by omega)]
      rcases hm with e | e
      · rw [h2, e, if_neg (by omega)]
      · rw [h2, e, if_pos (by omega)]
    have at77 : (gA g i = r ∧ S (gB g i) ∨ gB g i = r ∧ S (gA g i)) → ∀ z9 : ZV, ∃ s' : Int × ZV × ZV × ZV × ZV, Q (d + 1) 191 77 [zR 138, zI r, zI wo, zI nl, zI a, zI i, zI (gA g i), zI (gB g i), zI (gL g i), z9] [] M = Q (d + 1) 191 6 [zR 138, zI r, zI wo, zI nl, zI s'.1, zI (i + 1), s'.2.1, s'.2.2.1, s'.2.2.2.1, s'.2.2.2.2] [] M ∧ s'.1 = bI (∃ c, (0 ≤ c ∧ c < i + 1) ∧ c ≠ wo ∧ opn g S (eqn nk) (eqn nl) c ∧ (gA g c = r ∧ S (gB g c) ∨ gB g c = r ∧ S (gA g c))) := by
      intro q z9
      rw [q_191_77, zw_id (x := i + 1) (by omega)]
      rcases hm with e | e
      · rw [h2, e, if_neg (by omega)]
        have h20 : a = 0 := h2.trans e
        by_cases k1 : i = wo
        · rw [if_pos k1]
          exact ⟨(0, zI (gA g i), zI (gB g i), zI (gL g i), zI 1), rfl, h20.symm.trans (stay (fun z => z.1 k1))⟩
        · rw [if_neg k1]
          by_cases k2 : gL g i = -1
          · rw [if_pos k2]
            exact ⟨(1, zI (gA g i), zI (gB g i), zI (gL g i), zI 1), rfl, yes1 (Or.inr ⟨k1, Or.inl k2, q⟩)⟩
          · rw [if_neg k2]
            by_cases k3 : gL g i = nl
            · rw [if_pos k3]
              exact ⟨(1, zI (gA g i), zI (gB g i), zI (gL g i), zI 1), rfl, yes1 (Or.inr ⟨k1, Or.inr (Or.inr k3), q⟩)⟩
            · rw [if_neg k3, ST_at hK (by omega)]
              by_cases k4 : kof g S (gL g i) ∧ gL g i ≠ nk
              · rw [bI_t k4, if_neg (by omega)]
                exact ⟨(1, zI (gA g i), zI (gB g i), zI (gL g i), zI 1), rfl, yes1 (Or.inr ⟨k1, Or.inr (Or.inl k4), q⟩)⟩
              · rw [bI_f k4, if_pos (by omega)]
                refine ⟨(0, zI (gA g i), zI (gB g i), zI (gL g i), zI 1), rfl, h20.symm.trans (stay (fun z => ?_))⟩
                rcases z.2.1 with z | z | z
                · exact k2 z
                · exact k4 z
                · exact k3 z
      · rw [h2, e, if_pos (by omega)]
        exact ⟨(1, zI (gA g i), zI (gB g i), zI (gL g i), zI 1), rfl, yes1 (Or.inl (h2.trans e))⟩
    have at61 : (¬ (gA g i = r ∧ S (gB g i))) → ∃ s' : Int × ZV × ZV × ZV × ZV, Q (d + 1) 191 61 [zR 138, zI r, zI wo, zI nl, zI a, zI i, zI (gA g i), zI (gB g i), zI (gL g i), z9] [] M = Q (d + 1) 191 6 [zR 138, zI r, zI wo, zI nl, zI s'.1, zI (i + 1), s'.2.1, s'.2.2.1, s'.2.2.2.1, s'.2.2.2.2] [] M ∧ s'.1 = bI (∃ c, (0 ≤ c ∧ c < i + 1) ∧ c ≠ wo ∧ opn g S (eqn nk) (eqn nl) c ∧ (gA g c = r ∧ S (gB g c) ∨ gB g c = r ∧ S (gA g c))) := by
      intro q
      rw [q_191_61]
      by_cases k1 : gB g i = r
      · rw [if_neg (by omega), if_pos (by omega), hS _ (by omega) (by omega)]
        by_cases k2 : S (gA g i)
        · rw [bI_t k2, if_neg (by omega)]
          exact at77 (Or.inr ⟨k1, k2⟩) z9
        · rw [bI_f k2, if_pos rfl]
          exact at81 (fun z => z.elim q (fun z => k2 z.2)) z9
      · rw [if_pos k1]
        exact at81 (fun z => z.elim q (fun z => k1 z.1)) z9
    rw [q_191_43]
    by_cases k1 : gA g i = r
    · rw [if_neg (by omega), if_pos (by omega), hS _ (by omega) (by omega)]
      by_cases k2 : S (gB g i)
      · rw [bI_t k2, if_pos (by omega)]
        exact at77 (Or.inl ⟨k1, k2⟩) z9
      · rw [bI_f k2, if_neg (by omega)]
        exact at61 (fun z => k2 z.2)
    · rw [if_pos k1]
      exact at61 (fun z => k1 z.1)
  · rintro ⟨a, z6, z7, z8, z9⟩ h2
    dsimp only at h2 ⊢
    rw [q_191_6, hg, if_pos (Int.le_refl _), h2, if_pos bI_01]
    rfl
theorem m_goesTo {r nk n : Int} {S : Int → Prop} (hw : WF (M 139)) (hr : 0 ≤ r ∧ r < M 139 120) (hn : M 138 13 = n) (h0 : 0 ≤ n ∧ n < 12) (hK : ST (M 138 15) (fun k => kof (M 139) S k ∧ k ≠ nk)) : ∃ v, E (d + 2) 192 [zR 138, zI r, zI nk] M = Rt none (zwr (zwr (zwr (zwr M 147 r 1) 146 n r) 138 13 (n + 1)) 138 15 v) ∧ ST v (fun k => kof (M 139) (fun s => S s ∨ s = r) k ∧ k ≠ nk) := by
  have hR := wf_R hw
  have hk := wf_k hw hr
  have e1 : zwr M 147 r 1 138 13 = n := by rw [zwr_ne (by decide)]; exact hn
  have e2 : zwr (zwr M 147 r 1) 146 n r 138 13 = n := by rw [zwr_ne (by decide)]; exact e1
  rw [en_192, q_192_0, if_pos (by omega), e1, if_pos h0, e2, zw_id (x := n + 1) (by omega), m_k (by omega), Cb_I, q_192_33]
  have e3 : (zwr (zwr (zwr M 147 r 1) 146 n r) 138 13 (n + 1)) 138 15 = M 138 15 := by rw [zwr_nj (by decide), zwr_ne (by decide), zwr_ne (by decide)]
  have e4 : (zwr (zwr (zwr M 147 r 1) 146 n r) 138 13 (n + 1)) 139 = M 139 := by rw [zwr_n (by decide), zwr_n (by decide), zwr_n (by decide)]
  rw [e3, e4]
  have same : (gK (M 139) r = -1 ∨ gK (M 139) r = nk) → ST (zor (M 138 15) 0) (fun k => kof (M 139) (fun s => S s ∨ s = r) k ∧ k ≠ nk) := by
    intro q
    refine ST_cg (ST_or hK ST_0) (fun k k0 _ => ⟨?_, ?_⟩)
    · rintro (⟨⟨s, s0, s1, s2, s3⟩, z⟩ | z)
      · exact ⟨⟨s, s0, s1, Or.inl s2, s3⟩, z⟩
      · exact z.elim
    · rintro ⟨⟨s, s0, s1, s2, s3⟩, z⟩
      rcases s2 with s2 | s2
      · exact Or.inl ⟨⟨s, s0, s1, s2, s3⟩, z⟩
      · rw [s2] at s3
        omega
  by_cases k1 : gK (M 139) r = -1
  · rw [if_pos k1]
    exact ⟨_, rfl, same (Or.inl k1)⟩
  · rw [if_neg k1]
    by_cases k2 : gK (M 139) r = nk
    · rw [if_pos k2]
      exact ⟨_, rfl, same (Or.inr k2)⟩
    · rw [if_neg k2]
      refine ⟨_, rfl, ST_cg (ST_or hK (ST_1 (by omega))) (fun k k0 _ => ⟨?_, ?_⟩)⟩
      · rintro (⟨⟨s, s0, s1, s2, s3⟩, z⟩ | z)
        · exact ⟨⟨s, s0, s1, Or.inl s2, s3⟩, z⟩
        · exact ⟨⟨r, hr.1, hr.2, Or.inr rfl, z.symm⟩, by rw [z]; exact k2⟩
      · rintro ⟨⟨s, s0, s1, s2, s3⟩, z⟩
        rcases s2 with s2 | s2
        · exact Or.inl ⟨⟨s, s0, s1, s2, s3⟩, z⟩
        · rw [s2] at s3
          exact Or.inr s3.symm
/-- what tellVisit leaves -/
def mvt (M : ZM) (g : Int → Int) (wo nk nl : Int) : Prop := M 138 13 = vN g wo nk nl ∧ (∀ j, 0 ≤ j → j < vN g wo nk nl → M 146 j = vX g wo nk nl j) ∧ (∀ r, 0 ≤ r → r < 12 → M 147 r = bI (vT g wo nk nl r)) ∧ ST (M 138 15) (fun k => kof g (vT g wo nk nl) k ∧ k ≠ nk)
theorem m_tellVisit (hw : WF (M 139)) (wo nk nl : Int) : ∃ M', E (d + 5) 193 [zR 138, zI wo, zI nk, zI nl] M = Rt none M' ∧ fm M M' ∧ mvt M' (M 139) wo nk nl := by
  have hR := wf_R hw
  have hE := wf_E hw
  rw [en_193, q_193_0]
  generalize hg : M 139 = g at *
  have gg : ∀ {M' : ZM}, fm M M' → M' 139 = g := fun h => (fm_g h).trans hg
  have np13 : ¬ prs 13 := by unfold prs; omega
  have np15 : ¬ prs 15 := by unfold prs; omega
  refine lpi (fun i M1 => Q (d + 4) 193 13 [zR 138, zI wo, zI nk, zI nl, zI i, zU] [] M1) (fun o => ∃ M', o = Rt none M' ∧ fm M M' ∧ mvt M' g wo nk nl) 12 (fun i M1 => fm M M1 ∧ M1 138 13 = 0 ∧ M1 138 15 = 0 ∧ ∀ r, 0 ≤ r → r < i → M1 147 r = 0) ?_ ?_ 0 (zwr (zwr M 138 13 0) 138 15 0) (by omega) ⟨fm_f (fm_f fm_r np13) np15, by rw [zwr_nj (by decide)]; exact zwr_at, zwr_at, fun r h0 h1 => absurd h1 (by omega)⟩
  · rintro i M1 h0 h1 ⟨f1, a1, b1, c1⟩
    refine Or.inr ⟨zwr M1 147 i 0, ?_, fm_w f1 (by omega), by rw [zwr_ne (by decide)]; exact a1, by rw [zwr_ne (by decide)]; exact b1, fun r r0 r1 => ?_⟩
    · rw [q_193_13, if_neg (by omega), if_pos (by omega), zw_id (by omega)]
    · by_cases e : r = i
      · rw [e, zwr_at]
      · rw [zwr_nj e]
        exact c1 r r0 (by omega)
  · rintro M1 ⟨f1, a1, b1, c1⟩
    have go : Q (d + 4) 193 13 [zR 138, zI wo, zI nk, zI nl, zI 12, zU] [] M1 = Q (d + 4) 193 57 [zR 138, zI wo, zI nk, zI nl, zI (vX g wo nk nl 0), zU] [] M1 := by
      rw [q_193_13, if_pos (Int.le_refl _), gg f1, vX_0]
      by_cases e : 0 < g 120
      · rw [if_neg (by omega), if_pos e]
      · rw [if_pos (by omega), if_neg e]
    rw [go]
    refine lpi (fun i (s : ZM × ZV) => Q (d + 4) 193 57 [zR 138, zI wo, zI nk, zI nl, zI (vX g wo nk nl i), s.2] [] s.1) (fun o => ∃ M', o = Rt none M' ∧ fm M M' ∧ mvt M' g wo nk nl) (g 120 + 1) (fun i s => fm M s.1 ∧ s.1 138 13 = i ∧ (∀ j, 0 ≤ j → j < i → s.1 146 j = vX g wo nk nl j) ∧ (∀ r, 0 ≤ r → r < 12 → s.1 147 r = bI (vS g wo nk nl i r)) ∧ ST (s.1 138 15) (fun k => kof g (vS g wo nk nl i) k ∧ k ≠ nk) ∧ ∀ j, 0 ≤ j → j < i → vX g wo nk nl j ≠ -1) ?_ ?_ 0 (M1, zU) (by omega) ⟨f1, a1, fun j j0 j1 => absurd j1 (by omega), fun r r0 r1 => by dsimp only; rw [c1 r r0 r1, bI_f (vS_0 r)], ?_, fun j j0 j1 => absurd j1 (by omega)⟩
    · rintro i ⟨M2, z⟩ i0 i1 ⟨f2, a2, o2, b2, k2, t2⟩
      dsimp only at f2 a2 o2 b2 k2 ⊢
      have g2 := gg f2
      rw [q_193_57]
      by_cases e : vX g wo nk nl i = -1
      · have hN := vN_at (by omega) t2 e
        refine Or.inl ⟨M2, by rw [if_pos (by omega)], f2, ?_⟩
        unfold mvt vT
        rw [hN]
        exact ⟨a2, o2, b2, k2⟩
      · have rg := ((vI' hw i0 t2).2.2.resolve_left e).1
        have il := v_le hw i0 t2
        have il2 : i < g 120 := by
          by_cases q : i < g 120
          · exact q
          · exact absurd (v_end hw (by omega) t2) e
        obtain ⟨v, e3, k3⟩ := m_goesTo (d := d + 2) (M := M2) (r := vX g wo nk nl i) (nk := nk) (S := vS g wo nk nl i) (by rw [g2]; exact hw) (by rw [g2]; exact rg) a2 (by omega) (by rw [g2]; exact k2)
        rw [g2] at k3
        refine Or.inr ?_
        rw [if_neg (by omega), e3, Cb_V, q_193_69]
        generalize hM3 : zwr (zwr (zwr (zwr M2 147 (vX g wo nk nl i) 1) 146 i (vX g wo nk nl i)) 138 13 (i + 1)) 138 15 v = M3
        have f3 : fm M M3 := by
          rw [← hM3]
          exact fm_f (fm_f (fm_w (fm_w f2 (by omega)) (by omega)) np13) np15
        have a3 : M3 138 13 = i + 1 := by rw [← hM3, zwr_nj (by decide), zwr_at]
        have o3 : ∀ j, 0 ≤ j → j < i + 1 → M3 146 j = vX g wo nk nl j := by
          intro j j0 j1
          rw [← hM3, zwr_ne (by decide), zwr_ne (by decide)]
          by_cases q : j = i
          · rw [q, zwr_at]
          · rw [zwr_nj q, zwr_ne (by decide)]
            exact o2 j j0 (by omega)
        have b3 : ∀ r, 0 ≤ r → r < 12 → M3 147 r = bI (vS g wo nk nl (i + 1) r) := by
          intro r r0 r1
          rw [← hM3, zwr_ne (by decide), zwr_ne (by decide), zwr_ne (by decide), bI_cg (vS_s i0 r)]
          by_cases q : r = vX g wo nk nl i
          · rw [bI_t (Or.inr q), q, zwr_at]
          · rw [zwr_nj q, b2 r r0 r1]
            exact bI_cg ⟨Or.inl, fun z => z.resolve_right q⟩
        have k3' : ST (M3 138 15) (fun k => kof g (vS g wo nk nl (i + 1)) k ∧ k ≠ nk) := by
          rw [← hM3, zwr_at]
          refine ST_cg k3 (fun k _ _ => and_congr_left fun _ => ⟨?_, ?_⟩)
          · rintro ⟨s, s0, s1, s2, s3⟩
            exact ⟨s, s0, s1, (vS_s i0 s).2 s2, s3⟩
          · rintro ⟨s, s0, s1, s2, s3⟩
            exact ⟨s, s0, s1, (vS_s i0 s).1 s2, s3⟩
        have t3 : ∀ j, 0 ≤ j → j < i + 1 → vX g wo nk nl j ≠ -1 := by
          intro j j0 j1
          by_cases q : j = i
          · rw [q]; exact e
          · exact t2 j j0 (by omega)
        clear hM3 f2 a2 o2 b2 k2 e3 k3 g2
        refine lpi (fun j (M4 : ZM) => Q (d + 4) 193 75 [zR 138, zI wo, zI nk, zI nl, zI (am (fun r => cgo g wo nk nl (vS g wo nk nl (i + 1)) r ∧ ¬ vS g wo nk nl (i + 1) r) (dif g) j), zI j] [] M4) (fun o => ∃ s' : ZM × ZV, o = Q (d + 4) 193 57 [zR 138, zI wo, zI nk, zI nl, zI (vX g wo nk nl (i + 1)), s'.2] [] s'.1 ∧ fm M s'.1 ∧ s'.1 138 13 = i + 1 ∧ (∀ j, 0 ≤ j → j < i + 1 → s'.1 146 j = vX g wo nk nl j) ∧ (∀ r, 0 ≤ r → r < 12 → s'.1 147 r = bI (vS g wo nk nl (i + 1) r)) ∧ ST (s'.1 138 15) (fun k => kof g (vS g wo nk nl (i + 1)) k ∧ k ≠ nk) ∧ ∀ j, 0 ≤ j → j < i + 1 → vX g wo nk nl j ≠ -1) (g 120) (fun j M4 => fr1 145 M3 M4) ?_ ?_ 0 M3 (by omega) fr1_r
        · intro j M4 j0 j1 f4
          have f5 : fm M M4 := fm_t f3 (fm_1 f4 (by omega))
          have g4 := gg f5
          have h47 : M4 147 = M3 147 := f4 147 (by decide)
          have h38 : M4 138 = M3 138 := f4 138 (by decide)
          have hw4 : WF (M4 139) := by rw [g4]; exact hw
          refine Or.inr ?_
          rw [q_193_75, g4, if_neg (by omega), if_pos (by omega), h47, b3 j j0 (by omega)]
          by_cases q : vS g wo nk nl (i + 1) j
          · rw [bI_t q, if_pos (by omega), am_n j0 (fun z => z.1.2 q), zw_id (by omega)]
            exact ⟨M4, rfl, f4⟩
          · rw [bI_f q, if_neg (by omega), m_canGo (nk := nk) (S := vS g wo nk nl (i + 1)) hw4 (by rw [h47]; exact b3) (by rw [g4, h38]; exact k3'), Cb_I, q_193_105, g4]
            by_cases q2 : cgo g wo nk nl (vS g wo nk nl (i + 1)) j
            · rw [if_neg (bI_n0.2 q2)]
              rcases am_sp (p := fun r => cgo g wo nk nl (vS g wo nk nl (i + 1)) r ∧ ¬ vS g wo nk nl (i + 1) r) (f := dif g) j0 with w | w
              · rw [am_y j0 ⟨q2, q⟩ (Or.inl w.1), w.1, if_pos rfl, zw_id (by omega)]
                exact ⟨M4, rfl, f4⟩
              · obtain ⟨M5, e5, f5'⟩ := m_difficultyOf (d := d) (M := M4) hw4 (r := j) (by rw [g4]; omega)
                rw [if_neg (by omega), e5, Cb_I, q_193_120]
                have f6 := fr1_t f4 f5'
                have g5 : M5 139 = g := gg (fm_t f3 (fm_1 f6 (by omega)))
                obtain ⟨M6, e6, f6'⟩ := m_difficultyOf (d := d) (M := M5) (by rw [g5]; exact hw) (r := am (fun r => cgo g wo nk nl (vS g wo nk nl (i + 1)) r ∧ ¬ vS g wo nk nl (i + 1) r) (dif g) j) (by rw [g5]; omega)
                rw [e6, Cb_I, q_193_126, g4, g5, zw_id (x := j + 1) (by omega)]
                refine ⟨M6, ?_, fr1_t f6 f6'⟩
                by_cases l : dif g j < dif g (am (fun r => cgo g wo nk nl (vS g wo nk nl (i + 1)) r ∧ ¬ vS g wo nk nl (i + 1) r) (dif g) j)
                · rw [if_neg (by omega), am_y j0 ⟨q2, q⟩ (Or.inr l)]
                · rw [if_pos (by omega), am_n j0 (fun z => z.2.elim (fun z => by omega) l)]
            · rw [if_pos (bI_0.2 q2), am_n j0 (fun z => q2 z.1.1), zw_id (by omega)]
              exact ⟨M4, rfl, f4⟩
        · intro M4 f4
          have f5 : fm M M4 := fm_t f3 (fm_1 f4 (by omega))
          have h47 : M4 147 = M3 147 := f4 147 (by decide)
          have h38 : M4 138 = M3 138 := f4 138 (by decide)
          have h46 : M4 146 = M3 146 := f4 146 (by decide)
          refine ⟨(M4, zI (g 120)), ?_, f5, by dsimp only; rw [h38]; exact a3, by dsimp only; rw [h46]; exact o3, by dsimp only; rw [h47]; exact b3, by dsimp only; rw [h38]; exact k3', t3⟩
          rw [q_193_75, gg f5, if_pos (Int.le_refl _), vX_s i0]
          rfl
    · rintro ⟨M2, z⟩ ⟨f2, a2, o2, b2, k2, t2⟩
      have := v_le hw (by omega) t2
      omega
    · dsimp only
      rw [b1]
      exact ST_cg ST_0 (fun k _ _ => ⟨fun q => q.elim, fun ⟨⟨s, _, _, s2, _⟩, _⟩ => vS_0 s s2⟩)
theorem m_tell (hw : WF (M 139)) : ∃ M', E (d + 6) 194 [zR 138] M = Rt none M' ∧ fm M M' ∧ mvt M' (M 139) (-1) (-1) (-1) := by
  obtain ⟨M1, e1, h1⟩ := m_tellVisit (d := d) hw (-1) (-1) (-1)
  exact ⟨M1, by rw [en_194, q_194_0, e1, Cb_V, q_194_7], h1⟩
end
