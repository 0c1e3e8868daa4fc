/-! measure and tellDepths; difficulties -/
theorem dgr_cg {M M' : ZM} {D : Nat} {g : Int → Int} (h : ∀ b, D ≤ b → b ≤ D + 8 → M' b = M b) (k : dgr M D g) : dgr M' D g := by
  obtain ⟨k1, k2, k3⟩ := k
  refine ⟨?_, fun r h0 h1 => ?_, fun c h0 h1 => ?_⟩
  · rw [h D (by omega) (by omega)]; exact k1
  · have := k2 r h0 h1
    unfold dgR at this ⊢
    rw [h (D + 1) (by omega) (by omega), h (D + 2) (by omega) (by omega), h (D + 3) (by omega) (by omega), h (D + 4) (by omega) (by omega), h (D + 5) (by omega) (by omega)]
    exact this
  · have := k3 c h0 h1
    unfold dgC at this ⊢
    rw [h (D + 6) (by omega) (by omega), h (D + 7) (by omega) (by omega), h (D + 8) (by omega) (by omega)]
    exact this
def agr (w : Int) (φ f : Int → Int) : Prop := ∀ j, 0 ≤ j → j < w → φ j = f j
theorem agr_u {w b v : Int} {φ f : Int → Int} (h : agr w φ f) : agr w (up1 φ b v) (up1 f b v) := by
  intro j h0 h1
  by_cases e : j = b
  · rw [e, up1_s, up1_s]
  · rw [up1_n e, up1_n e]; exact h j h0 h1
/-- the same but for one cell -/
def fr1 (r : Nat) (M M' : ZM) : Prop := ∀ b, b ≠ r → M' b = M b
theorem fr1_r {r : Nat} {M : ZM} : fr1 r M M := fun _ _ => rfl
theorem fr1_w {r : Nat} {M M' : ZM} {i v : Int} (h : fr1 r M M') : fr1 r M (zwr M' r i v) := fun b hb => (zwr_n hb).trans (h b hb)
theorem fr1_t {r : Nat} {M M' M'' : ZM} (h : fr1 r M M') (k : fr1 r M' M'') : fr1 r M M'' := fun b hb => (k b hb).trans (h b hb)
section
variable {d : Nat} {M : ZM} {g : Int → Int} {r : Nat}
theorem fr1_d {M' : ZM} (h : fr1 r M M') (hr : 100 ≤ r) (hd : dgr M 1 g) : dgr M' 1 g := dgr_cg (fun b _ h1 => h b (by omega)) hd
theorem x_fill {w : Nat} (hk : zkn SH r = 20) (hl : zln SH r = w) (hw : w < 1000) (v : Int) : ∃ M', E (d + 1) 254 [zR r, zI v] M = Rt none M' ∧ fr1 r M M' ∧ agr w (M' r) (fun _ => v) := by
  rw [en_254, q_254_0 hk hl]
  refine lpi (fun i M' => Q d 254 5 [zR r, zI v, zI i, zI (w : Int)] [] M') (fun o => ∃ M', o = Rt none M' ∧ fr1 r M M' ∧ agr w (M' r) (fun _ => v)) w (fun i M' => fr1 r M M' ∧ agr i (M' r) (fun _ => v)) ?_ ?_ 0 M (by omega) ⟨fr1_r, fun j h0 h1 => absurd h1 (by omega)⟩
  · rintro i M' h0 h1 ⟨h2, h3⟩
    refine Or.inr ⟨zwr M' r i v, ?_, fr1_w h2, ?_⟩
    · rw [q_254_5 hk hl, if_neg (by omega), if_pos (by omega), zw_id (by omega)]
    · intro j j0 j1
      rw [zwr_u]
      by_cases e : j = i
      · rw [e, up1_s]
      · rw [up1_n e]; exact h3 j j0 (by omega)
  · rintro M' ⟨h2, h3⟩
    rw [q_254_5 hk hl, if_pos (Int.le_refl _)]
    exact ⟨M', rfl, h2, h3⟩
theorem x_extend (hk : zkn SH r = 20) (hl : zln SH r = 12) {a b n : Int} (ha : 0 ≤ a ∧ a < 12) (hb : 0 ≤ b ∧ b < 12) (hn : 0 ≤ n ∧ n < 100) : E (d + 1) 83 [zR r, zI a, zI b, zI n] M = Rt none (if M r a = n ∧ M r b = -1 then zwr M r b (n + 1) else M) := by
  rw [en_83, q_83_0 hk hl, if_pos ha]
  by_cases h1 : M r a = n
  · rw [if_neg (by omega), if_pos hb]
    by_cases h2 : M r b = -1
    · rw [if_neg (by omega), if_pos hb, if_pos ⟨h1, h2⟩, zw_id (by omega)]
    · rw [if_pos h2, if_neg (fun q => h2 q.2)]
  · rw [if_pos h1, if_neg (fun q => h1 q.1)]
theorem x_measure (hk : zkn SH r = 20) (hl : zln SH r = 12) (hr : 100 ≤ r) (hw : WF g) (hd : dgr M 1 g) {o : Int} (ho : 0 ≤ o) : ∃ M', E (d + 2) 82 [zR 1, zI o, zR r] M = Rt none M' ∧ fr1 r M M' ∧ agr 12 (M' r) (dep g (-1) o) := by
  have hR := wf_R hw
  have hW := wf_W hw
  obtain ⟨M1, e1, f1, a1⟩ := x_fill (d := d) (M := M) hk hl (by omega) (-1)
  rw [en_82, q_82_0 hk hl, e1, Cb_V, q_82_5 hk hl, x_hasRoom (fr1_d f1 hr hd), Cb_I, q_82_10 hk hl]
  by_cases h : 0 ≤ o ∧ o < g 120
  · rw [if_pos (bI_n0.2 h), if_pos (by omega)]
    have start : fr1 r M (zwr M1 r o 0) ∧ agr 12 ((zwr M1 r o 0) r) (lay g (-1) (dep0 g o) 0) := by
      refine ⟨fr1_w f1, fun j j0 j1 => ?_⟩
      rw [lay_0, zwr_u]
      have k := dep0_c h.2 j
      by_cases e : j = o
      · rw [e, up1_s]
        have := dep0_c h.2 o
        omega
      · rw [up1_n e, a1 j j0 (by omega)]
        show (-1 : Int) = _
        omega
    refine lpi (fun i (s : ZM × ZV) => Q (d + 1) 82 20 [zR 1, zI o, zR r, zI i, s.2] [] s.1) (fun out => ∃ M', out = Rt none M' ∧ fr1 r M M' ∧ agr 12 (M' r) (dep g (-1) o)) (g 120) (fun i s => fr1 r M s.1 ∧ agr 12 (s.1 r) (lay g (-1) (dep0 g o) i)) ?_ ?_ 0 (zwr M1 r o 0, zU) (by omega) start
    · rintro n ⟨M2, z⟩ n0 n1 ⟨f2, a2⟩
      dsimp only at f2 a2 ⊢
      refine Or.inr ?_
      rw [q_82_20 hk hl, h1R (fr1_d f2 hr hd), if_neg (by omega)]
      refine lpi (fun c M3 => Q (d + 1) 82 31 [zR 1, zI o, zR r, zI n, zI c] [] M3) (fun out => ∃ s' : ZM × ZV, out = Q (d + 1) 82 20 [zR 1, zI o, zR r, zI (n + 1), s'.2] [] s'.1 ∧ fr1 r M s'.1 ∧ agr 12 (s'.1 r) (lay g (-1) (dep0 g o) (n + 1))) (g 121) (fun c M3 => fr1 r M M3 ∧ agr 12 (M3 r) (swp g (-1) n (lay g (-1) (dep0 g o) n) c)) ?_ ?_ 0 M2 (by omega) ⟨f2, a2⟩
      · rintro c M3 c0 c1 ⟨f3, a3⟩
        refine Or.inr ?_
        have hab := wf_ab hw ⟨c0, c1⟩
        have hd3 := fr1_d f3 hr hd
        rw [q_82_31 hk hl, h1W hd3, if_neg (by omega), if_pos (by omega), if_pos (by omega), h1a hd3 ⟨c0, c1⟩, h1b hd3 ⟨c0, c1⟩, x_extend hk hl (by omega) (by omega) (by omega), Cb_V, a3 _ (by omega) (by omega), a3 _ (by omega) (by omega)]
        generalize hF : swp g (-1) n (lay g (-1) (dep0 g o) n) c = F at a3
        have step : swp g (-1) n (lay g (-1) (dep0 g o) n) (c + 1) = stp g (-1) n c F := by rw [swp_s c0, hF]
        by_cases k1 : F (gA g c) = n ∧ F (gB g c) = -1
        · have f4 : fr1 r M (zwr M3 r (gB g c) (n + 1)) := fr1_w f3
          have hd4 := fr1_d f4 hr hd
          have kb : (zwr M3 r (gB g c) (n + 1)) r (gB g c) = n + 1 := by rw [zwr_u, up1_s]
          refine ⟨zwr M3 r (gB g c) (n + 1), ?_, f4, ?_⟩
          · rw [if_pos k1, q_82_59 hk hl, if_pos (by omega), if_pos (by omega), h1a hd4 ⟨c0, c1⟩, h1b hd4 ⟨c0, c1⟩, x_extend hk hl (by omega) (by omega) (by omega), Cb_V, kb, if_neg (by omega), q_82_78 hk hl, zw_id (by omega)]
          · rw [step]
            unfold stp
            rw [if_pos ⟨by omega, k1⟩, zwr_u]
            exact agr_u a3
        · rw [if_neg k1, q_82_59 hk hl, if_pos (by omega), if_pos (by omega), h1a hd3 ⟨c0, c1⟩, h1b hd3 ⟨c0, c1⟩, x_extend hk hl (by omega) (by omega) (by omega), Cb_V, a3 _ (by omega) (by omega), a3 _ (by omega) (by omega), q_82_78 hk hl, zw_id (by omega)]
          by_cases k2 : F (gB g c) = n ∧ F (gA g c) = -1
          · refine ⟨zwr M3 r (gA g c) (n + 1), by rw [if_pos k2], fr1_w f3, ?_⟩
            rw [step]
            unfold stp
            rw [if_neg (fun q => k1 q.2), if_pos ⟨by omega, k2⟩, zwr_u]
            exact agr_u a3
          · refine ⟨M3, by rw [if_neg k2], f3, ?_⟩
            rw [step]
            unfold stp
            rw [if_neg (fun q => k1 q.2), if_neg (fun q => k2 q.2)]
            exact a3
      · rintro M3 ⟨f3, a3⟩
        refine ⟨(M3, zI (g 121)), ?_, f3, ?_⟩
        · rw [q_82_31 hk hl, h1W (fr1_d f3 hr hd), if_pos (Int.le_refl _), zw_id (by omega)]
        · rw [lay_s n0]
          exact a3
    · rintro ⟨M2, z⟩ ⟨f2, a2⟩
      dsimp only at f2 a2 ⊢
      refine ⟨M2, by rw [q_82_20 hk hl, h1R (fr1_d f2 hr hd), if_pos (Int.le_refl _)], f2, ?_⟩
      rw [dep_R hw h.1] at a2
      exact a2
  · rw [if_neg (fun q => q (bI_0.2 h))]
    refine ⟨M1, rfl, f1, fun j j0 j1 => ?_⟩
    rw [a1 j j0 (by omega), dep_no hw (by omega)]
theorem m_tellDepths (hw : WF (M 139)) (o wo : Int) (hwo : -1 ≤ wo ∧ wo < 20): ∃ M', E (d + 2) 187 [zR 138, zI o, zI wo] M = Rt none M' ∧ fr1 145 M M' ∧ agr 12 (M' 145) (dep (M 139) wo o) := by
  have hR := wf_R hw
  have hW := wf_W hw
  rw [en_187, q_187_0]
  generalize hg : M 139 = g at *
  have gg : ∀ {M' : ZM}, fr1 145 M M' → M' 139 = g := fun h => (h 139 (by decide)).trans hg
  refine lpi (fun i M1 => Q (d + 1) 187 2 [zR 138, zI o, zI wo, zI i, zU, zU, zU] [] M1) (fun out => ∃ M', out = Rt none M' ∧ fr1 145 M M' ∧ agr 12 (M' 145) (dep g wo o)) 12 (fun i M1 => fr1 145 M M1 ∧ agr i (M1 145) (dep0 g o)) ?_ ?_ 0 M (by omega) ⟨fr1_r, fun j h0 h1 => absurd h1 (by omega)⟩
  · rintro i M1 i0 i1 ⟨f1, a1⟩
    refine Or.inr ⟨zwr M1 145 i (dep0 g o i), ?_, fr1_w f1, ?_⟩
    · rw [q_187_2, if_neg (by omega), gg f1]
      unfold dep0
      by_cases e : i = o
      · rw [if_neg (by omega)]
        by_cases k : g 120 ≤ i
        · rw [if_pos k, if_pos (by omega), if_neg (by omega), zw_id (by omega)]
        · rw [if_neg k, if_pos (by omega), if_pos (by omega), zw_id (by omega)]
      · rw [if_pos e, if_pos (by omega), if_neg (fun q => e q.1), zw_id (by omega)]
    · intro j j0 j1
      rw [zwr_u]
      by_cases e : j = i
      · rw [e, up1_s]
      · rw [up1_n e]; exact a1 j j0 (by omega)
  · rintro M1 ⟨f1, a1⟩
    rw [q_187_2, if_pos (Int.le_refl _)]
    refine lpi (fun i (s : ZM × ZV × ZV × ZV) => Q (d + 1) 187 43 [zR 138, zI o, zI wo, zI i, s.2.1, s.2.2.1, s.2.2.2] [] s.1) (fun out => ∃ M', out = Rt none M' ∧ fr1 145 M M' ∧ agr 12 (M' 145) (dep g wo o)) 12 (fun i s => fr1 145 M s.1 ∧ agr 12 (s.1 145) (lay g wo (dep0 g o) i)) ?_ ?_ 0 (M1, zU, zU, zU) (by omega) ⟨f1, a1⟩
    · rintro n ⟨M2, z4, z5, z6⟩ n0 n1 ⟨f2, a2⟩
      dsimp only at f2 a2 ⊢
      refine Or.inr ?_
      rw [q_187_43, if_neg (by omega)]
      refine lpi (fun c (s : ZM × ZV × ZV) => Q (d + 1) 187 52 [zR 138, zI o, zI wo, zI n, zI c, s.2.1, s.2.2] [] s.1) (fun out => ∃ s' : ZM × ZV × ZV × ZV, out = Q (d + 1) 187 43 [zR 138, zI o, zI wo, zI (n + 1), s'.2.1, s'.2.2.1, s'.2.2.2] [] s'.1 ∧ fr1 145 M s'.1 ∧ agr 12 (s'.1 145) (lay g wo (dep0 g o) (n + 1))) (g 121) (fun c s => fr1 145 M s.1 ∧ agr 12 (s.1 145) (swp g wo n (lay g wo (dep0 g o) n) c)) ?_ ?_ 0 (M2, z5, z6) (by omega) ⟨f2, a2⟩
      · rintro c ⟨M3, y5, y6⟩ c0 c1 ⟨f3, a3⟩
        dsimp only at f3 a3 ⊢
        refine Or.inr ?_
        have hab := wf_ab hw ⟨c0, c1⟩
        have g3 := gg f3
        rw [q_187_52, g3, if_neg (by omega), m_a (by omega), Cb_I, q_187_71, m_b (by omega), Cb_I, q_187_80, g3]
        generalize hF : swp g wo n (lay g wo (dep0 g o) n) c = F at a3
        have step : swp g wo n (lay g wo (dep0 g o) n) (c + 1) = stp g wo n c F := by rw [swp_s c0, hF]
        have nochange : stp g wo n c F = F → agr 12 (M3 145) (swp g wo n (lay g wo (dep0 g o) n) (c + 1)) := fun e => by rw [step, e]; exact a3
        by_cases kw : c = wo
        · refine ⟨(M3, zI (gA g c), zI (gB g c)), by rw [if_pos kw, q_187_123, if_pos kw, zw_id (by omega)], f3, nochange ?_⟩
          unfold stp
          rw [if_neg (fun q => q.1 kw), if_neg (fun q => q.1 kw)]
        · rw [if_neg kw, if_pos (by omega), a3 _ (by omega) (by omega)]
          by_cases k1 : F (gA g c) = n ∧ F (gB g c) = -1
          · refine ⟨(zwr M3 145 (gB g c) (n + 1), zI (gA g c), zI (gB g c)), ?_, fr1_w f3, ?_⟩
            · rw [if_neg (by omega), if_pos (by omega), a3 _ (by omega) (by omega), if_neg (by omega), if_pos (by omega), zw_id (by omega), zw_id (by omega)]
            · rw [step]
              unfold stp
              rw [if_pos ⟨kw, k1⟩]
              show agr 12 ((zwr M3 145 (gB g c) (n + 1)) 145) _
              rw [zwr_u]
              exact agr_u a3
          · have go : (if F (gA g c) ≠ n then Q (d + 1) 187 123 [zR 138, zI o, zI wo, zI n, zI c, zI (gA g c), zI (gB g c)] [] M3 else if 0 ≤ gB g c ∧ gB g c < 12 then if M3 145 (gB g c) ≠ -1 then Q (d + 1) 187 123 [zR 138, zI o, zI wo, zI n, zI c, zI (gA g c), zI (gB g c)] [] M3 else if 0 ≤ gB g c ∧ gB g c < 12 then Q (d + 1) 187 52 [zR 138, zI o, zI wo, zI n, zI (zw (c + 1)), zI (gA g c), zI (gB g c)] [] (zwr M3 145 (gB g c) (zw (n + 1))) else none else none) = Q (d + 1) 187 123 [zR 138, zI o, zI wo, zI n, zI c, zI (gA g c), zI (gB g c)] [] M3 := by
              by_cases k2 : F (gA g c) = n
              · rw [if_neg (by omega), if_pos (by omega), a3 _ (by omega) (by omega), if_pos (fun q => k1 ⟨k2, q⟩)]
              · rw [if_pos k2]
            rw [go, q_187_123, if_neg kw, if_pos (by omega), a3 _ (by omega) (by omega)]
            by_cases k3 : F (gB g c) = n
            · rw [if_neg (by omega), if_pos (by omega), a3 _ (by omega) (by omega)]
              by_cases k4 : F (gA g c) = -1
              · refine ⟨(zwr M3 145 (gA g c) (n + 1), zI (gA g c), zI (gB g c)), ?_, fr1_w f3, ?_⟩
                · rw [if_neg (by omega), if_pos (by omega), zw_id (by omega), zw_id (by omega)]
                · rw [step]
                  unfold stp
                  rw [if_neg (fun q => k1 q.2), if_pos ⟨kw, k3, k4⟩]
                  show agr 12 ((zwr M3 145 (gA g c) (n + 1)) 145) _
                  rw [zwr_u]
                  exact agr_u a3
              · refine ⟨(M3, zI (gA g c), zI (gB g c)), by rw [if_pos k4, zw_id (by omega)], f3, nochange ?_⟩
                unfold stp
                rw [if_neg (fun q => k1 q.2), if_neg (fun q => k4 q.2.2)]
            · refine ⟨(M3, zI (gA g c), zI (gB g c)), by rw [if_pos k3, zw_id (by omega)], f3, nochange ?_⟩
              unfold stp
              rw [if_neg (fun q => k1 q.2), if_neg (fun q => k3 q.2.1)]
      · rintro ⟨M3, y5, y6⟩ ⟨f3, a3⟩
        dsimp only at f3 a3 ⊢
        refine ⟨(M3, zI (g 121), y5, y6), ?_, f3, ?_⟩
        · rw [q_187_52, gg f3, if_pos (Int.le_refl _), zw_id (by omega)]
        · rw [lay_s n0]
          exact a3
    · rintro ⟨M2, z4, z5, z6⟩ ⟨f2, a2⟩
      dsimp only at f2 a2 ⊢
      exact ⟨M2, by rw [q_187_43, if_pos (Int.le_refl _)], f2, a2⟩
/-- the depth and the difficulty of a room -/
def dpt (g : Int → Int) (r : Int) : Int := dep g (-1) (g 122) r
noncomputable def dif (g : Int → Int) (r : Int) : Int := if dpt g r = -1 then 500 else if g 123 = 0 then 10 * dpt g r else if g 123 = 1 then dpt g r * dpt g r + gW g r * gH g r / 4 else 100 - 10 * deg g r + dpt g r
theorem m_depthOf (hw : WF (M 139)) {r : Int} (hr : 0 ≤ r ∧ r < M 139 120) : ∃ M', E (d + 3) 188 [zR 138, zI r] M = Rt (some (zI (dpt (M 139) r))) M' ∧ fr1 145 M M' := by
  have hR := wf_R hw
  obtain ⟨M1, e1, f1, a1⟩ := m_tellDepths (d := d) hw (M 139 122) (-1) (by omega)
  refine ⟨M1, ?_, f1⟩
  rw [en_188, q_188_0, e1, Cb_V, q_188_12, if_pos (by omega), a1 _ (by omega) (by omega)]
  rfl
theorem dpt_rg (hw : WF g) (r : Int) : -1 ≤ dpt g r ∧ dpt g r < 12 := dep_rg hw (wf_E hw).1 r
theorem deg_rg (hw : WF g) (r : Int) : 0 ≤ deg g r ∧ deg g r ≤ 20 := by
  have hW := wf_W hw
  have := cn_le (p := fun c => eds g c r) hW.1
  unfold deg
  omega
theorem sq_rg {x : Int} (h : 0 ≤ x ∧ x < 12) : 0 ≤ x * x ∧ x * x ≤ 121 := by
  have h1 : 0 ≤ x * x := Int.mul_nonneg h.1 h.1
  have h2 : x * x ≤ 11 * 11 := Int.mul_le_mul (by omega) (by omega) h.1 (by omega)
  omega
theorem dif_rg (hw : WF g) {r : Int} (hr : 0 ≤ r ∧ r < g 120) : -100 ≤ dif g r ∧ dif g r ≤ 500 := by
  have h1 := dpt_rg hw r
  have h2 := deg_rg hw r
  have h3 := wf_wh hw hr
  unfold dif
  by_cases k : dpt g r = -1
  · rw [if_pos k]; omega
  · have h4 := sq_rg (x := dpt g r) (by omega)
    rw [if_neg k]
    split
    · omega
    · split <;> omega
theorem m_difficultyOf (hw : WF (M 139)) {r : Int} (hr : 0 ≤ r ∧ r < M 139 120) : ∃ M', E (d + 4) 190 [zR 138, zI r] M = Rt (some (zI (dif (M 139) r))) M' ∧ fr1 145 M M' := by
  have hR := wf_R hw
  have hW := wf_W hw
  have hU := wf_U hw
  obtain ⟨M1, e1, f1⟩ := m_depthOf (d := d) hw hr
  refine ⟨M1, ?_, f1⟩
  have g1 : M1 139 = M 139 := f1 139 (by decide)
  rw [en_190, q_190_0, e1, Cb_I, q_190_5]
  generalize M 139 = g at *
  have h1 := dpt_rg hw r
  have h2 := deg_rg hw r
  have h3 := wf_wh hw hr
  unfold dif
  rw [g1]
  by_cases k : dpt g r = -1
  · rw [if_neg (by omega), if_pos k]
  · have h4 := sq_rg (x := dpt g r) (by omega)
    rw [if_pos k, if_neg k]
    by_cases k0 : g 123 = 0
    · rw [if_pos k0, if_pos k0, zw_id (by omega)]
    · rw [if_neg k0, if_neg k0]
      by_cases k1 : g 123 = 1
      · rw [if_pos k1, if_pos k1, m_w (by omega), Cb_I, q_190_62, m_h (by omega), Cb_I, q_190_68, g1]
        rw [zw_id (x := gW g r * gH g r) (by omega), zw_id (x := dpt g r * dpt g r) (by omega), Int.tdiv_eq_ediv_of_nonneg h3.1]
        exact Rt_cg (by unfold zw; omega)
      · rw [if_neg k1, if_neg k1, m_degreeOf (by rw [g1]; exact hW), Cb_I, q_190_82, g1]
        exact Rt_cg (by unfold zw; omega)
theorem x_rate (hw : WF g) (hd : dgr M 1 g) {r : Int} (hr : 0 ≤ r ∧ r < g 120) : E (d + 3) 44 [zR 1, zI r, zI (dpt g r)] M = Rt (some (zI (dif g r))) M := by
  have hR := wf_R hw
  have h1 := dpt_rg hw r
  have h2 := deg_rg hw r
  have h3 := wf_wh hw hr
  rw [en_44, q_44_0, h1U hd]
  unfold dif
  by_cases k : dpt g r = -1
  · rw [if_neg (by omega), if_pos k]
  · have h4 := sq_rg (x := dpt g r) (by omega)
    rw [if_pos k, if_neg k]
    by_cases k0 : g 123 = 0
    · rw [if_pos k0, if_pos k0, zw_id (by omega)]
    · rw [if_neg k0, if_neg k0]
      by_cases k1 : g 123 = 1
      · rw [if_pos k1, if_pos k1, x_cellsOf hw hd hr, Cb_I, q_44_53, zw_id (x := gW g r * gH g r) (by omega), zw_id (x := dpt g r * dpt g r) (by omega), Int.tdiv_eq_ediv_of_nonneg h3.1]
        exact Rt_cg (by unfold zw; omega)
      · rw [if_neg k1, if_neg k1, x_corridorsOf hw hd, Cb_I, q_44_66]
        exact Rt_cg (by unfold zw; omega)
end
