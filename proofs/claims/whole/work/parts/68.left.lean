/-! walks: the reference's table of what is left -/
noncomputable def lhit (g f : Int → Int) (n u : Int) : Int := fs (fun c => 0 ≤ thr g u c ∧ f (thr g u c) = n - 1) (g 121)
noncomputable def pr (g f : Int → Int) (n i u : Int) : Int := if (0 ≤ u ∧ u < i) ∧ f u = -1 ∧ lhit g f n u ≠ -1 then n else f u
def IV (g f : Int → Int) (r0 n : Int) : Prop := (∀ s, 0 ≤ s → s < 64 * g 120 → (-1 ≤ f s ∧ f s ≤ n - 1) ∧ (f s = 0 ↔ s / 64 = r0)) ∧ (∀ s, 0 ≤ s → s < 64 * g 120 → 0 < f s → ∃ r, (0 ≤ r ∧ r < g 120) ∧ tr g s r ≠ -1 ∧ f (tr g s r) = f s - 1) ∧ ∀ s r, 0 ≤ s → s < 64 * g 120 → 0 ≤ r → r < g 120 → tr g s r ≠ -1 → 0 ≤ f (tr g s r) → f (tr g s r) ≤ n - 2 → 0 ≤ f s ∧ f s ≤ f (tr g s r) + 1
section
variable {d : Nat} {M : ZM} {g f : Int → Int} {r0 n : Int}
theorem lhit_y {u : Int} (hw : WF g) (h : lhit g f n u ≠ -1) : (0 ≤ lhit g f n u ∧ lhit g f n u < g 121) ∧ 0 ≤ thr g u (lhit g f n u) ∧ f (thr g u (lhit g f n u)) = n - 1 := by
  rcases fs_sp (p := fun c => 0 ≤ thr g u c ∧ f (thr g u c) = n - 1) (wf_W hw).1 with k | k
  · exact absurd k.1 h
  · exact ⟨k.1, k.2.1⟩
theorem lhit_n {u c : Int} (h : lhit g f n u = -1) (hw : WF g) (hc : 0 ≤ c ∧ c < g 121) : ¬ (0 ≤ thr g u c ∧ f (thr g u c) = n - 1) := by
  rcases fs_sp (p := fun c => 0 ≤ thr g u c ∧ f (thr g u c) = n - 1) (wf_W hw).1 with k | k
  · exact k.2 c hc.1 hc.2
  · unfold lhit at h
    omega
theorem lhit_of {u c : Int} (hw : WF g) (hc : 0 ≤ c ∧ c < g 121) (h : 0 ≤ thr g u c ∧ f (thr g u c) = n - 1) : lhit g f n u ≠ -1 := fun e => lhit_n e hw hc h
theorem pr_o {i u : Int} (h : f u ≠ -1) : pr g f n i u = f u := if_neg (fun q => h q.2.1)
theorem pr_ge {i u : Int} (h : i ≤ u) : pr g f n i u = f u := if_neg (fun q => by omega)
/-- a value of the round before is as it was -/
theorem pr_v {i u : Int} (hn : 1 ≤ n) : pr g f n i u = n - 1 ↔ f u = n - 1 := by
  unfold pr
  split
  · rename_i h
    rw [h.2.1]
    omega
  · exact Iff.rfl
theorem pr_s {i u : Int} (h : u ≠ i) : pr g f n (i + 1) u = pr g f n i u := by
  unfold pr
  by_cases k : (0 ≤ u ∧ u < i) ∧ f u = -1 ∧ lhit g f n u ≠ -1
  · rw [if_pos k, if_pos ⟨by omega, k.2⟩]
  · rw [if_neg k, if_neg (fun q => k ⟨by omega, q.2⟩)]
theorem IV_s (hw : WF g) (hn : 1 ≤ n) (h : IV g f r0 n) : IV g (pr g f n (64 * g 120)) r0 (n + 1) := by
  obtain ⟨h1, h2, h3⟩ := h
  have val : ∀ u, 0 ≤ u → u < 64 * g 120 → (f u ≠ -1 ∧ pr g f n (64 * g 120) u = f u) ∨ (f u = -1 ∧ lhit g f n u ≠ -1 ∧ pr g f n (64 * g 120) u = n) ∨ (f u = -1 ∧ lhit g f n u = -1 ∧ pr g f n (64 * g 120) u = -1) := by
    intro u u0 u1
    by_cases a : f u = -1
    · by_cases b : lhit g f n u = -1
      · exact Or.inr (Or.inr ⟨a, b, by unfold pr; rw [if_neg (fun q => q.2.2 b), a]⟩)
      · exact Or.inr (Or.inl ⟨a, b, by unfold pr; rw [if_pos ⟨⟨u0, u1⟩, a, b⟩]⟩)
    · exact Or.inl ⟨a, pr_o a⟩
  have T := tr_T hw
  refine ⟨fun s s0 s1 => ?_, fun s s0 s1 k => ?_, fun s r s0 s1 r1 r2 t k1 k2 => ?_⟩
  · have a := h1 s s0 s1
    rcases val s s0 s1 with ⟨b, e⟩ | ⟨b, -, e⟩ | ⟨b, -, e⟩
    · rw [e]; exact ⟨by omega, a.2⟩
    · rw [e]
      exact ⟨by omega, ⟨fun z => by omega, fun z => by have := a.2.2 z; omega⟩⟩
    · rw [e]
      exact ⟨by omega, ⟨fun z => by omega, fun z => by have := a.2.2 z; omega⟩⟩
  · rcases val s s0 s1 with ⟨b, e⟩ | ⟨b, b2, e⟩ | ⟨b, -, e⟩
    · rw [e] at k ⊢
      obtain ⟨r, r1, r2, r3⟩ := h2 s s0 s1 k
      exact ⟨r, r1, r2, by rw [pr_o (by omega)]; exact r3⟩
    · rw [e]
      obtain ⟨c1, c2, c3⟩ := lhit_y hw b2
      obtain ⟨q1, q2⟩ := thr_tr hw s0 c1 (by omega)
      exact ⟨_, q1, by rw [q2]; omega, by rw [q2, pr_o (by omega)]; exact c3⟩
    · omega
  · have tt := (T s r s0 s1 r1 r2).resolve_left t
    rcases val _ tt.1.1 tt.1.2 with ⟨b, e⟩ | ⟨b, b2, e⟩ | ⟨b, -, e⟩
    · rw [e] at k1 k2 ⊢
      have a := h1 s s0 s1
      rcases val s s0 s1 with ⟨c, e2⟩ | ⟨c, c2, e2⟩ | ⟨c, c2, e2⟩
      · rw [e2]
        by_cases z : f (tr g s r) ≤ n - 2
        · exact h3 s r s0 s1 r1 r2 t k1 z
        · omega
      · rw [e2]
        by_cases z : f (tr g s r) ≤ n - 2
        · have := h3 s r s0 s1 r1 r2 t k1 z
          omega
        · omega
      · by_cases z : f (tr g s r) ≤ n - 2
        · have := h3 s r s0 s1 r1 r2 t k1 z
          omega
        · obtain ⟨x, x1, x2⟩ := tr_thr hw t
          exact absurd c2 (lhit_of hw x1 ⟨by rw [x2]; exact tt.1.1, by rw [x2]; omega⟩)
    · omega
    · omega
theorem IV_end (hn : 1 ≤ n) (h : IV g f r0 (n + 1)) (hf : ∀ s, 0 ≤ s → s < 64 * g 120 → f s ≤ n - 1) (hw : WF g) : wm (tr g) r0 (g 120) f := by
  obtain ⟨h1, h2, h3⟩ := h
  refine ⟨fun s s0 s1 => ⟨(h1 s s0 s1).1.1, (h1 s s0 s1).2⟩, h2, fun s r s0 s1 r1 r2 t k => ?_⟩
  have tt := (tr_T hw s r s0 s1 r1 r2).resolve_left t
  have := hf _ tt.1.1 tt.1.2
  exact h3 s r s0 s1 r1 r2 t k (by omega)
/-- one place of the table in a round -/
theorem m_rstep {v2 i : Int} {z5 z6 : ZV} (hw : WF g) (hg : M 139 = g) (hn : 1 ≤ n ∧ n ≤ 1000) (hi : 0 ≤ i ∧ i < 64 * g 120) (a : ∀ u, M 152 u = pr g f n i u) : ∃ M' v2' z5' z6', Q (d + 3) 237 47 [zR 138, zI r0, zI v2, zI n, zI i, z5, z6] [] M = Q (d + 3) 237 47 [zR 138, zI r0, zI v2', zI n, zI (i + 1), z5', z6'] [] M' ∧ fr1 152 M M' ∧ (∀ u, M' 152 u = pr g f n (i + 1) u) ∧ ((v2' = v2 ∧ ∀ u, M' 152 u = M 152 u) ∨ (v2' = 1 ∧ M 152 i = -1 ∧ M' 152 i = n)) := by
  have hR := wf_R hw
  have hW := wf_W hw
  have hi' : 0 ≤ i ∧ i < 768 := by omega
  have ai : M 152 i = f i := by rw [a, pr_ge (Int.le_refl _)]
  rw [q_237_47, hg, zw_id (x := 64 * g 120) (by omega), if_neg (by omega)]
  by_cases fi : f i = -1
  · refine lpi (fun c (z6 : ZV) => Q (d + 3) 237 65 [zR 138, zI r0, zI v2, zI n, zI i, zI c, z6] [] M) (fun o => ∃ M' v2' z5' z6', o = Q (d + 3) 237 47 [zR 138, zI r0, zI v2', zI n, zI (i + 1), z5', z6'] [] M' ∧ fr1 152 M M' ∧ (∀ u, M' 152 u = pr g f n (i + 1) u) ∧ ((v2' = v2 ∧ ∀ u, M' 152 u = M 152 u) ∨ (v2' = 1 ∧ M 152 i = -1 ∧ M' 152 i = n))) (g 121) (fun c _ => ∀ j, 0 ≤ j → j < c → ¬ (0 ≤ thr g i j ∧ f (thr g i j) = n - 1)) ?_ ?_ 0 z6 (by omega) (fun j j0 j1 => absurd j1 (by omega))
    · intro c z6 c0 c1 no
      have tg := thr_rg hw hi.1 (c := c) ⟨c0, c1⟩
      have e1 : Q (d + 3) 237 65 [zR 138, zI r0, zI v2, zI n, zI i, zI c, z6] [] M = Q (d + 3) 237 96 [zR 138, zI r0, zI v2, zI n, zI i, zI c, z6] [zI (thr g i c)] M := by
        rw [q_237_65, hg, if_neg (by omega), if_pos hi', ai, if_neg (fun q => q fi), m_through (by rw [hg]; exact hw) hi' (by rw [hg]; exact ⟨c0, c1⟩), Cb_I, hg]
      rw [e1, q_237_96, zw_id (x := c + 1) (by omega), zw_id (x := n - 1) (by omega)]
      by_cases t : thr g i c < 0
      · rw [if_pos t]
        refine Or.inr ⟨_, rfl, fun j j0 j1 => ?_⟩
        by_cases e : j = c
        · rw [e]; omega
        · exact no j j0 (by omega)
      · have tg := (tg.resolve_left (by omega)).1
        rw [if_neg t, if_pos (by omega), a]
        by_cases v : pr g f n i (thr g i c) = n - 1
        · have hh : lhit g f n i ≠ -1 := lhit_of hw ⟨c0, c1⟩ ⟨by omega, (pr_v hn.1).1 v⟩
          have wr : ∀ u, zwr M 152 i n 152 u = pr g f n (i + 1) u := fun u => by
            by_cases e : u = i
            · rw [e, zwr_at]
              unfold pr
              rw [if_pos ⟨by omega, fi, hh⟩]
            · rw [zwr_nj e, a, pr_s e]
          refine Or.inl ⟨zwr M 152 i n, 1, zI (c + 1), zI (thr g i c), ?_, fr1_w fr1_r, wr, Or.inr ⟨rfl, by rw [ai, fi], zwr_at⟩⟩
          rw [if_neg (fun q => q v), if_pos hi', q_237_65, zwr_n (by decide), hg]
          by_cases k : g 121 ≤ c + 1
          · rw [if_pos k, zw_id (x := i + 1) (by omega)]
          · rw [if_neg k, if_pos hi', zwr_at, if_pos (by omega), zw_id (x := i + 1) (by omega)]
        · rw [if_pos v]
          refine Or.inr ⟨_, rfl, fun j j0 j1 => ?_⟩
          by_cases e : j = c
          · rw [e]
            exact fun q => v ((pr_v hn.1).2 q.2)
          · exact no j j0 (by omega)
    · intro z6 no
      refine ⟨M, v2, zI (g 121), z6, ?_, fr1_r, fun u => ?_, Or.inl ⟨rfl, fun _ => rfl⟩⟩
      · rw [q_237_65, hg, if_pos (Int.le_refl _), zw_id (x := i + 1) (by omega)]
      · by_cases e : u = i
        · rw [e, ai]
          unfold pr
          rw [if_neg (fun q => q.2.2 (fs_no no))]
        · rw [a, pr_s e]
  · refine ⟨M, v2, zI 0, z6, ?_, fr1_r, fun u => ?_, Or.inl ⟨rfl, fun _ => rfl⟩⟩
    · rw [q_237_65, hg, zw_id (x := i + 1) (by omega)]
      by_cases k : g 121 ≤ 0
      · rw [if_pos k]
      · rw [if_neg k, if_pos hi', ai, if_pos fi]
    · by_cases e : u = i
      · rw [e, ai, pr_o fi]
      · rw [a, pr_s e]
theorem m_round {z4 z5 z6 : ZV} (hw : WF g) (hg : M 139 = g) (hn : 1 ≤ n ∧ n ≤ 1000) : ∃ M' v2 z5' z6', Q (d + 3) 237 38 [zR 138, zI r0, zI 1, zI n, z4, z5, z6] [] M = Q (d + 3) 237 38 [zR 138, zI r0, zI v2, zI (n + 1), zI (64 * g 120), z5', z6'] [] M' ∧ fr1 152 M M' ∧ (∀ u, M' 152 u = pr g (M 152) n (64 * g 120) u) ∧ ((v2 = 0 ∧ ∀ u, M' 152 u = M 152 u) ∨ (v2 = 1 ∧ ∃ u, (0 ≤ u ∧ u < 64 * g 120) ∧ M 152 u = -1 ∧ M' 152 u = n)) := by
  have hR := wf_R hw
  rw [q_237_38, if_neg (by decide)]
  refine lpi (fun i (s : ZM × Int × ZV × ZV) => Q (d + 3) 237 47 [zR 138, zI r0, zI s.2.1, zI n, zI i, s.2.2.1, s.2.2.2] [] s.1) (fun o => ∃ M' v2 z5' z6', o = Q (d + 3) 237 38 [zR 138, zI r0, zI v2, zI (n + 1), zI (64 * g 120), z5', z6'] [] M' ∧ fr1 152 M M' ∧ (∀ u, M' 152 u = pr g (M 152) n (64 * g 120) u) ∧ ((v2 = 0 ∧ ∀ u, M' 152 u = M 152 u) ∨ (v2 = 1 ∧ ∃ u, (0 ≤ u ∧ u < 64 * g 120) ∧ M 152 u = -1 ∧ M' 152 u = n))) (64 * g 120) (fun i s => fr1 152 M s.1 ∧ (∀ u, s.1 152 u = pr g (M 152) n i u) ∧ ((s.2.1 = 0 ∧ ∀ u, s.1 152 u = M 152 u) ∨ (s.2.1 = 1 ∧ ∃ u, (0 ≤ u ∧ u < i) ∧ M 152 u = -1 ∧ s.1 152 u = n))) ?_ ?_ 0 (M, 0, z5, z6) (by omega) ⟨fr1_r, fun u => by rw [show pr g (M 152) n 0 u = M 152 u from if_neg (fun q => by omega)], Or.inl ⟨rfl, fun _ => rfl⟩⟩
  · rintro i ⟨M1, v2, z5, z6⟩ i0 i1 ⟨h1, h2, h3⟩
    dsimp only at h1 h2 h3 ⊢
    obtain ⟨M2, v2', z5', z6', e, k1, k2, k3⟩ := m_rstep (d := d) (M := M1) (f := M 152) (v2 := v2) (r0 := r0) (z5 := z5) (z6 := z6) hw (by rw [h1 139 (by decide)]; exact hg) hn ⟨i0, i1⟩ h2
    refine Or.inr ⟨(M2, v2', z5', z6'), e, fr1_t h1 k1, k2, ?_⟩
    dsimp only
    have old : ∀ u, 0 ≤ u ∧ u < i → M 152 u = -1 → M1 152 u = n → M2 152 u = n := fun u u1 u2 u3 => by rw [k2, pr_s (by omega), ← h2]; exact u3
    rcases k3 with ⟨k3, k4⟩ | ⟨k3, k4, k5⟩
    · rcases h3 with ⟨h3, h4⟩ | ⟨h3, u, u1, u2, u3⟩
      · exact Or.inl ⟨k3.trans h3, fun u => (k4 u).trans (h4 u)⟩
      · exact Or.inr ⟨k3.trans h3, u, by omega, u2, old u u1 u2 u3⟩
    · exact Or.inr ⟨k3, i, by omega, by rw [h2, pr_ge (Int.le_refl _)] at k4; exact k4, k5⟩
  · rintro ⟨M1, v2, z5, z6⟩ ⟨h1, h2, h3⟩
    dsimp only at h1 h2 h3 ⊢
    refine ⟨M1, v2, z5, z6, ?_, h1, h2, h3⟩
    rw [q_237_47, h1 139 (by decide), hg, zw_id (x := 64 * g 120) (by omega), if_pos (Int.le_refl _), zw_id (x := n + 1) (by omega)]
theorem m_rounds (hw : WF g) (k : Nat) : ∀ (n : Int) (M : ZM) (z4 z5 z6 : ZV), M 139 = g → 1 ≤ n → n + cn (fun u => M 152 u = -1) 768 ≤ 800 → cn (fun u => M 152 u = -1) 768 ≤ k → IV g (M 152) r0 n → ∃ M', Q (d + 3) 237 38 [zR 138, zI r0, zI 1, zI n, z4, z5, z6] [] M = Rt none M' ∧ fr1 152 M M' ∧ wm (tr g) r0 (g 120) (M' 152) := by
  have hR := wf_R hw
  induction k with
  | zero =>
    intro n M z4 z5 z6 hg hn hb hk iv
    have c0 := cn_le (p := fun u => M 152 u = -1) (n := 768) (by decide)
    obtain ⟨M1, v2, y5, y6, e, f1, a, w⟩ := m_round (d := d) (M := M) (r0 := r0) (n := n) (z4 := z4) (z5 := z5) (z6 := z6) hw hg (by omega)
    have iv1 := IV_s hw hn iv
    have e1 : pr g (M 152) n (64 * g 120) = M1 152 := funext fun u => (a u).symm
    rw [e1] at iv1
    rcases w with ⟨w1, w2⟩ | ⟨w1, u, u1, u2, u3⟩
    · refine ⟨M1, ?_, f1, IV_end hn iv1 (fun s s0 s1 => by rw [w2]; exact (iv.1 s s0 s1).1.2) hw⟩
      rw [e, w1, q_237_38, if_pos rfl]
    · have := cn_pos (p := fun u => M 152 u = -1) (n := 768) (j := u) (by omega) u2
      omega
  | succ k ih =>
    intro n M z4 z5 z6 hg hn hb hk iv
    have c0 := cn_le (p := fun u => M 152 u = -1) (n := 768) (by decide)
    obtain ⟨M1, v2, y5, y6, e, f1, a, w⟩ := m_round (d := d) (M := M) (r0 := r0) (n := n) (z4 := z4) (z5 := z5) (z6 := z6) hw hg (by omega)
    have iv1 := IV_s hw hn iv
    have e1 : pr g (M 152) n (64 * g 120) = M1 152 := funext fun u => (a u).symm
    rw [e1] at iv1
    rcases w with ⟨w1, w2⟩ | ⟨w1, u, u1, u2, u3⟩
    · refine ⟨M1, ?_, f1, IV_end hn iv1 (fun s s0 s1 => by rw [w2]; exact (iv.1 s s0 s1).1.2) hw⟩
      rw [e, w1, q_237_38, if_pos rfl]
    · have lt := cn_lt (p := fun u => M1 152 u = -1) (q := fun u => M 152 u = -1) (n := 768) (j := u) (by omega) u2 (by rw [u3]; omega) (fun i i0 i1 z => by
        by_cases q : M 152 i = -1
        · exact q
        · rw [a, pr_o q] at z
          exact z)
      obtain ⟨M2, e2, f2, m2⟩ := ih (n + 1) M1 (zI (64 * g 120)) y5 y6 ((f1 139 (by decide)).trans hg) (by omega) (by omega) (by omega) iv1
      exact ⟨M2, by rw [e, w1, e2], fr1_t f1 f2, m2⟩
theorem m_tellLeft (hw : WF g) (hg : M 139 = g) (hr : 0 ≤ r0 ∧ r0 < g 120) : ∃ M', E (d + 4) 237 [zR 138, zI r0] M = Rt none M' ∧ fr1 152 M M' ∧ wm (tr g) r0 (g 120) (M' 152) := by
  have hR := wf_R hw
  rw [en_237, q_237_0]
  refine lpi (fun i M' => Q (d + 3) 237 2 [zR 138, zI r0, zI i, zU, zU, zU, zU] [] M') (fun o => ∃ M', o = Rt none M' ∧ fr1 152 M M' ∧ wm (tr g) r0 (g 120) (M' 152)) 768 (fun i M' => fr1 152 M M' ∧ ∀ u, 0 ≤ u → u < i → M' 152 u = if u / 64 = r0 then 0 else -1) ?_ ?_ 0 M (by decide) ⟨fr1_r, fun u u0 u1 => absurd u1 (by omega)⟩
  · rintro i M' i0 i1 ⟨f1, a⟩
    rw [q_237_2, if_neg (by omega), Int.tdiv_eq_ediv_of_nonneg i0, zw_id (x := i / 64) (by omega), zw_id (x := i + 1) (by omega)]
    by_cases k : i / 64 = r0
    · refine Or.inr ⟨zwr M' 152 i 0, by rw [if_neg (fun q => q k), if_pos ⟨i0, i1⟩], fr1_w f1, fun u u0 u1 => ?_⟩
      by_cases e : u = i
      · rw [e, zwr_at, if_pos k]
      · rw [zwr_nj e]
        exact a u u0 (by omega)
    · refine Or.inr ⟨zwr M' 152 i (-1), by rw [if_pos k, if_pos ⟨i0, i1⟩], fr1_w f1, fun u u0 u1 => ?_⟩
      by_cases e : u = i
      · rw [e, zwr_at, if_neg k]
      · rw [zwr_nj e]
        exact a u u0 (by omega)
  · rintro M' ⟨f1, a⟩
    rw [q_237_2, if_pos (Int.le_refl _)]
    have c0 := cn_le (p := fun u => M' 152 u = -1) (n := 768) (by decide)
    have val : ∀ s, 0 ≤ s → s < 64 * g 120 → (M' 152 s = 0 ∧ s / 64 = r0) ∨ (M' 152 s = -1 ∧ s / 64 ≠ r0) := fun s s0 s1 => by
      have := a s s0 (by omega)
      by_cases e : s / 64 = r0
      · rw [if_pos e] at this
        exact Or.inl ⟨this, e⟩
      · rw [if_neg e] at this
        exact Or.inr ⟨this, e⟩
    obtain ⟨M2, e2, f2, m2⟩ := m_rounds (d := d) (r0 := r0) hw 768 1 M' zU zU zU ((f1 139 (by decide)).trans hg) (by decide) (by omega) (by omega) ⟨fun s s0 s1 => by have := val s s0 s1; omega, fun s s0 s1 k => by have := val s s0 s1; omega, fun s r s0 s1 r1 r2 t k1 k2 => by omega⟩
    exact ⟨M2, e2, fr1_t f1 f2, m2⟩
end
