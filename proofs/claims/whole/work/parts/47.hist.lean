/-! copies of dungeons, the history, what both hold in common -/
def sep (D F : Nat) : Prop := D = F ∨ D + 9 ≤ F ∨ F + 9 ≤ D
theorem zDn_sep {D F : Nat} (h : zDn D) (k : zDn F) : sep D F := by
  unfold sep
  rcases h with h | h | ⟨i, h1, h⟩ <;> rcases k with k | k | ⟨j, k1, k⟩ <;> omega
theorem zDn_1 : zDn 1 := Or.inl rfl
theorem zDn_10 : zDn 10 := Or.inr (Or.inl rfl)
theorem zDn_s {i : Nat} (h : i < 7) : zDn (21 + 9 * i) := Or.inr (Or.inr ⟨i, h, rfl⟩)
theorem WF_cg {g g' : Int → Int} (h : ∀ i, 0 ≤ i → i < 124 → g' i = g i) (hw : WF g) : WF g' := by
  have hR := wf_R hw
  have hW := wf_W hw
  have e0 := h 120 (by omega) (by omega)
  have e1 := h 121 (by omega) (by omega)
  have e2 := h 122 (by omega) (by omega)
  have e3 := h 123 (by omega) (by omega)
  refine ⟨?_, fun r r0 r1 => ?_, fun r s r0 r1 s0 s1 ne => ?_, fun c c0 c1 => ?_, fun c e c0 c1 f0 f1 => ?_⟩
  · unfold wfN
    rw [e0, e1, e2, e3]
    exact hw.1
  · rw [e0] at r1
    have k := wf_r hw ⟨r0, r1⟩
    unfold wfR gX gY gW gH gK at k ⊢
    rw [h _ (by omega) (by omega), h _ (by omega) (by omega), h _ (by omega) (by omega), h _ (by omega) (by omega), h _ (by omega) (by omega)]
    exact k
  · rw [e0] at r1 s1
    have k := hw.2.2.1 r s r0 r1 s0 s1 ne
    unfold wfP gX gY gW gH at k ⊢
    rw [h (5 * r + 0) (by omega) (by omega), h (5 * r + 1) (by omega) (by omega), h (5 * r + 2) (by omega) (by omega), h (5 * r + 3) (by omega) (by omega), h (5 * s + 0) (by omega) (by omega), h (5 * s + 1) (by omega) (by omega), h (5 * s + 2) (by omega) (by omega), h (5 * s + 3) (by omega) (by omega)]
    exact k
  · rw [e1] at c1
    have k := wf_c hw ⟨c0, c1⟩
    unfold wfC gA gB gL at k ⊢
    rw [e0, h _ (by omega) (by omega), h _ (by omega) (by omega), h _ (by omega) (by omega)]
    exact k
  · rw [e1] at c1 f1
    have k := hw.2.2.2.2 c e c0 c1 f0 f1
    unfold gA gB at k ⊢
    rw [h (60 + 3 * c + 0) (by omega) (by omega), h (60 + 3 * c + 1) (by omega) (by omega), h (60 + 3 * e + 0) (by omega) (by omega), h (60 + 3 * e + 1) (by omega) (by omega)]
    exact k
theorem dgr_cgg {M : ZM} {D : Nat} {g g' : Int → Int} (h : ∀ i, 0 ≤ i → i < 124 → g' i = g i) (hw : WF g) (k : dgr M D g) : dgr M D g' := by
  have hR := wf_R hw
  have hW := wf_W hw
  refine ⟨⟨?_, ?_, ?_, ?_⟩, fun r r0 r1 => ?_, fun c c0 c1 => ?_⟩
  · rw [h 120 (by omega) (by omega)]; exact k.1.1
  · rw [h 121 (by omega) (by omega)]; exact k.1.2.1
  · rw [h 122 (by omega) (by omega)]; exact k.1.2.2.1
  · rw [h 123 (by omega) (by omega)]; exact k.1.2.2.2
  · rw [h 120 (by omega) (by omega)] at r1
    have l := k.2.1 r r0 r1
    unfold dgR gX gY gW gH gK at l ⊢
    rw [h _ (by omega) (by omega), h _ (by omega) (by omega), h _ (by omega) (by omega), h _ (by omega) (by omega), h _ (by omega) (by omega)]
    exact l
  · rw [h 121 (by omega) (by omega)] at c1
    have l := k.2.2 c c0 c1
    unfold dgC gA gB gL at l ⊢
    rw [h _ (by omega) (by omega), h _ (by omega) (by omega), h _ (by omega) (by omega)]
    exact l
section
variable {d : Nat} {M : ZM} {g : Int → Int}
theorem x_takeRoom {D F : Nat} (hD : zDn D) (hF : zDn F) {i j : Int} (hi : 0 ≤ i ∧ i < 12) (hj : 0 ≤ j ∧ j < 12) : ∃ M', E (d + 1) 12 [zR D, zI i, zR F, zI j] M = Rt none M' ∧ (∀ b, b ≤ D ∨ D + 5 < b → M' b = M b) ∧ M' (D + 1) = up1 (M (D + 1)) i (M (F + 1) j) ∧ M' (D + 2) = up1 (M (D + 2)) i (M (F + 2) j) ∧ M' (D + 3) = up1 (M (D + 3)) i (M (F + 3) j) ∧ M' (D + 4) = up1 (M (D + 4)) i (M (F + 4) j) ∧ M' (D + 5) = up1 (M (D + 5)) i (M (F + 5) j) := by
  have s := zDn_sep hD hF
  unfold sep at s
  refine ⟨zwr (zwr (zwr (zwr (zwr M (D + 1) i (M (F + 1) j)) (D + 2) i (M (F + 2) j)) (D + 3) i (M (F + 3) j)) (D + 4) i (M (F + 4) j)) (D + 5) i (M (F + 5) j), ?_, ?_, ?_, ?_, ?_, ?_, ?_⟩
  · rw [en_12, q_12_0 hD hF]
    simp only [zwr_ne (show F + 2 ≠ D + 1 by omega), zwr_ne (show F + 3 ≠ D + 1 by omega), zwr_ne (show F + 3 ≠ D + 2 by omega), zwr_ne (show F + 4 ≠ D + 1 by omega), zwr_ne (show F + 4 ≠ D + 2 by omega), zwr_ne (show F + 4 ≠ D + 3 by omega), zwr_ne (show F + 5 ≠ D + 1 by omega), zwr_ne (show F + 5 ≠ D + 2 by omega), zwr_ne (show F + 5 ≠ D + 3 by omega), zwr_ne (show F + 5 ≠ D + 4 by omega)]
    rw [if_pos hj, if_pos hi, if_pos hj, if_pos hi, if_pos hj, if_pos hi, if_pos hj, if_pos hi, if_pos hj, if_pos hi]
  · intro b hb
    rw [zwr_n (by omega), zwr_n (by omega), zwr_n (by omega), zwr_n (by omega), zwr_n (by omega)]
  · rw [zwr_n (by omega), zwr_n (by omega), zwr_n (by omega), zwr_n (by omega), zwr_u]
  · rw [zwr_n (by omega), zwr_n (by omega), zwr_n (by omega), zwr_u, zwr_n (by omega)]
  · rw [zwr_n (by omega), zwr_n (by omega), zwr_u, zwr_n (by omega), zwr_n (by omega)]
  · rw [zwr_n (by omega), zwr_u, zwr_n (by omega), zwr_n (by omega), zwr_n (by omega)]
  · rw [zwr_u, zwr_n (by omega), zwr_n (by omega), zwr_n (by omega), zwr_n (by omega)]
theorem x_takeCorridor {D F : Nat} (hD : zDn D) (hF : zDn F) {i j : Int} (hi : 0 ≤ i ∧ i < 20) (hj : 0 ≤ j ∧ j < 20) : ∃ M', E (d + 1) 13 [zR D, zI i, zR F, zI j] M = Rt none M' ∧ (∀ b, b ≤ D + 5 ∨ D + 8 < b → M' b = M b) ∧ M' (D + 6) = up1 (M (D + 6)) i (M (F + 6) j) ∧ M' (D + 7) = up1 (M (D + 7)) i (M (F + 7) j) ∧ M' (D + 8) = up1 (M (D + 8)) i (M (F + 8) j) := by
  have s := zDn_sep hD hF
  unfold sep at s
  refine ⟨zwr (zwr (zwr M (D + 6) i (M (F + 6) j)) (D + 7) i (M (F + 7) j)) (D + 8) i (M (F + 8) j), ?_, ?_, ?_, ?_, ?_⟩
  · rw [en_13, q_13_0 hD hF]
    simp only [zwr_ne (show F + 7 ≠ D + 6 by omega), zwr_ne (show F + 8 ≠ D + 6 by omega), zwr_ne (show F + 8 ≠ D + 7 by omega)]
    rw [if_pos hj, if_pos hi, if_pos hj, if_pos hi, if_pos hj, if_pos hi]
  · intro b hb
    rw [zwr_n (by omega), zwr_n (by omega), zwr_n (by omega)]
  · rw [zwr_n (by omega), zwr_n (by omega), zwr_u]
  · rw [zwr_n (by omega), zwr_u, zwr_n (by omega)]
  · rw [zwr_u, zwr_n (by omega), zwr_n (by omega)]
theorem x_become {D F : Nat} (hD : zDn D) (hF : zDn F) (ne : D ≠ F) (hw : WF g) (h : dgr M F g) : ∃ M', E (d + 2) 11 [zR D, zR F] M = Rt none M' ∧ frr D (D + 8) M M' ∧ dgr M' D g := by
  have s := (zDn_sep hD hF).resolve_left ne
  have hR := wf_R hw
  have hW := wf_W hw
  have src : ∀ {M1 : ZM}, frr D (D + 8) M M1 → dgr M1 F g := fun k => dgr_cg (fun b b0 b1 => k b (by omega)) h
  rw [en_11, q_11_0 hD hF]
  refine lpi (fun i (M1 : ZM) => Q (d + 1) 11 2 [zR D, zR F, zI i] [] M1) (fun o => ∃ M', o = Rt none M' ∧ frr D (D + 8) M M' ∧ dgr M' D g) (g 120) (fun i M1 => frr D (D + 8) M M1 ∧ ∀ r, 0 ≤ r → r < i → dgR M1 D g r) ?_ ?_ 0 M (by omega) ⟨frr_r, fun r r0 r1 => absurd r1 (by omega)⟩
  · rintro i M1 i0 i1 ⟨f1, a1⟩
    obtain ⟨M2, e2, f2, b1, b2, b3, b4, b5⟩ := x_takeRoom (d := d) (M := M1) hD hF (i := i) (j := i) (by omega) (by omega)
    have hs := src f1
    refine Or.inr ⟨M2, ?_, frr_t f1 (fun b hb => f2 b (by omega)), fun r r0 r1 => ?_⟩
    · rw [q_11_2 hD hF, dg_R hs, if_neg (by omega), e2, Cb_V, q_11_17 hD hF, zw_id (by omega)]
    · unfold dgR
      rw [b1, b2, b3, b4, b5]
      by_cases e : r = i
      · rw [e, up1_s, up1_s, up1_s, up1_s, up1_s]
        exact hs.2.1 i i0 i1
      · rw [up1_n e, up1_n e, up1_n e, up1_n e, up1_n e]
        exact a1 r r0 (by omega)
  · rintro M1 ⟨f1, a1⟩
    rw [q_11_2 hD hF, dg_R (src f1), if_pos (Int.le_refl _)]
    refine lpi (fun i (M2 : ZM) => Q (d + 1) 11 25 [zR D, zR F, zI i] [] M2) (fun o => ∃ M', o = Rt none M' ∧ frr D (D + 8) M M' ∧ dgr M' D g) (g 121) (fun i M2 => frr D (D + 8) M M2 ∧ (∀ r, 0 ≤ r → r < g 120 → dgR M2 D g r) ∧ ∀ c, 0 ≤ c → c < i → dgC M2 D g c) ?_ ?_ 0 M1 (by omega) ⟨f1, a1, fun c c0 c1 => absurd c1 (by omega)⟩
    · rintro i M2 i0 i1 ⟨f2, a2, c2⟩
      obtain ⟨M3, e3, f3, b1, b2, b3⟩ := x_takeCorridor (d := d) (M := M2) hD hF (i := i) (j := i) (by omega) (by omega)
      have hs := src f2
      refine Or.inr ⟨M3, ?_, frr_t f2 (fun b hb => f3 b (by omega)), fun r r0 r1 => ?_, fun c c0 c1 => ?_⟩
      · rw [q_11_25 hD hF, dg_W hs, if_neg (by omega), e3, Cb_V, q_11_40 hD hF, zw_id (by omega)]
      · unfold dgR
        rw [f3 (D + 1) (by omega), f3 (D + 2) (by omega), f3 (D + 3) (by omega), f3 (D + 4) (by omega), f3 (D + 5) (by omega)]
        exact a2 r r0 r1
      · unfold dgC
        rw [b1, b2, b3]
        by_cases e : c = i
        · rw [e, up1_s, up1_s, up1_s]
          exact hs.2.2 i i0 i1
        · rw [up1_n e, up1_n e, up1_n e]
          exact c2 c c0 (by omega)
    · rintro M2 ⟨f2, a2, c2⟩
      have hs := src f2
      refine ⟨zwr (zwr (zwr (zwr M2 D 8 (g 120)) D 9 (g 121)) D 10 (g 122)) D 11 (g 123), ?_, ?_, ⟨?_, ?_, ?_, ?_⟩, fun r r0 r1 => ?_, fun c c0 c1 => ?_⟩
      · rw [q_11_25 hD hF, dg_W hs, if_pos (Int.le_refl _)]
        simp only [zwr_ne (show F ≠ D by omega)]
        rw [dg_R hs, dg_W hs, dg_E hs, dg_U hs]
      · exact frr_w (frr_w (frr_w (frr_w f2 (by omega) (by omega)) (by omega) (by omega)) (by omega) (by omega)) (by omega) (by omega)
      · rw [zwr_nj (by decide), zwr_nj (by decide), zwr_nj (by decide), zwr_at]
      · rw [zwr_nj (by decide), zwr_nj (by decide), zwr_at]
      · rw [zwr_nj (by decide), zwr_at]
      · rw [zwr_at]
      · have k := a2 r r0 r1
        unfold dgR at k ⊢
        simp only [zwr_ne (show D + 1 ≠ D by omega), zwr_ne (show D + 2 ≠ D by omega), zwr_ne (show D + 3 ≠ D by omega), zwr_ne (show D + 4 ≠ D by omega), zwr_ne (show D + 5 ≠ D by omega)]
        exact k
      · have k := c2 c c0 c1
        unfold dgC at k ⊢
        simp only [zwr_ne (show D + 6 ≠ D by omega), zwr_ne (show D + 7 ≠ D by omega), zwr_ne (show D + 8 ≠ D by omega)]
        exact k
/-- the place of a change's copy; a row of the reference's history -/
def slo (a : Int) : Nat := 21 + 9 * (a % 7).toNat
def hrw (M : ZM) (k : Int) : Int → Int := fun i => M 140 (124 * k + i)
def HI (M : ZM) : Prop := (0 ≤ M 19 1 ∧ M 19 1 < 7) ∧ (0 ≤ M 138 2 ∧ M 138 2 ≤ 6) ∧ M 19 2 = M 138 2 ∧ ∀ k, 0 ≤ k → k < M 138 2 → WF (hrw M k) ∧ dgr M (slo (M 19 1 + 7 - M 138 2 + k)) (hrw M k)
theorem zDn_slo (a : Int) : zDn (slo a) := by
  unfold slo
  exact zDn_s (by omega)
theorem slo_rg (a : Int) : 21 ≤ slo a ∧ slo a ≤ 75 := by
  unfold slo
  omega
/-- the class's history beside a place that is being written: unchanged, or a change more -/
def hxs (M M' : ZM) : Prop := ∀ b, (21 ≤ b ∧ b ≤ 83) → (b < slo (M 19 1) ∨ slo (M 19 1) + 8 < b) → M' b = M b
def hx0 (M M' : ZM) : Prop := M' 19 = M 19 ∧ hxs M M'
def hx1 (M M' : ZM) (g0 : Int → Int) : Prop := M' 19 1 = (M 19 1 + 1) % 7 ∧ M' 19 2 = (if 6 < M 19 2 + 1 then 6 else M 19 2 + 1) ∧ hxs M M' ∧ WF g0 ∧ dgr M' (slo (M 19 1)) g0
def hm0 (M M' : ZM) : Prop := M' 138 2 = M 138 2 ∧ M' 140 = M 140
def hm1 (M M' : ZM) (g0 : Int → Int) : Prop := M' 138 2 = (if M 138 2 = 6 then 6 else M 138 2 + 1) ∧ ∀ i, 0 ≤ i → i < 124 → (∀ k, 0 ≤ k → k < M' 138 2 - 1 → M' 140 (124 * k + i) = M 140 (124 * (k + (M 138 2 + 1 - M' 138 2)) + i)) ∧ M' 140 (124 * (M' 138 2 - 1) + i) = g0 i
theorem slo_cg {a b : Int} (h : a % 7 = b % 7) : slo a = slo b := by
  unfold slo
  rw [h]
theorem slo_ne {a b : Int} (h : a % 7 ≠ b % 7) : slo a + 8 < slo b ∨ slo b + 8 < slo a := by
  unfold slo
  omega
theorem hxs_d {M' : ZM} {a : Int} (h : hxs M M') (hn : a % 7 ≠ M 19 1 % 7) (hd : dgr M (slo a) g) : dgr M' (slo a) g := by
  have r := slo_rg a
  have s := slo_ne hn
  exact dgr_cg (fun b b0 b1 => h b (by omega) (by omega)) hd
theorem HI_0 {M' : ZM} (h : HI M) (x : hx0 M M') (m : hm0 M M') : HI M' := by
  obtain ⟨h1, h2, h3, h4⟩ := h
  obtain ⟨x1, x2⟩ := x
  obtain ⟨m1, m2⟩ := m
  unfold HI hrw
  rw [x1, m1, m2]
  exact ⟨h1, h2, h3, fun k k0 k1 => ⟨(h4 k k0 k1).1, hxs_d x2 (by omega) (h4 k k0 k1).2⟩⟩
theorem HI_1 {M' : ZM} {g0 : Int → Int} (h : HI M) (x : hx1 M M' g0) (m : hm1 M M' g0) : HI M' := by
  obtain ⟨h1, h2, h3, h4⟩ := h
  obtain ⟨x1, x2, x3, x4, x5⟩ := x
  obtain ⟨m1, m2⟩ := m
  have n' : M' 138 2 = (if M 138 2 = 6 then 6 else M 138 2 + 1) := m1
  have e2 : M' 19 2 = M' 138 2 := by
    rw [x2, n', h3]
    split <;> split <;> omega
  have rg : (M 138 2 = 6 ∧ M' 138 2 = 6) ∨ (M 138 2 < 6 ∧ M' 138 2 = M 138 2 + 1) := by
    rw [n']
    split <;> omega
  refine ⟨by omega, by omega, e2, fun k k0 k1 => ?_⟩
  by_cases e : k < M' 138 2 - 1
  · have row : ∀ i, 0 ≤ i → i < 124 → hrw M' k i = hrw M (k + (M 138 2 + 1 - M' 138 2)) i := fun i i0 i1 => (m2 i i0 i1).1 k k0 e
    obtain ⟨w, dd⟩ := h4 (k + (M 138 2 + 1 - M' 138 2)) (by omega) (by omega)
    refine ⟨WF_cg row w, dgr_cgg row w ?_⟩
    rw [x1, slo_cg (b := M 19 1 + 7 - M 138 2 + (k + (M 138 2 + 1 - M' 138 2))) (by omega)]
    exact hxs_d x3 (by omega) dd
  · have ek : k = M' 138 2 - 1 := by omega
    have row : ∀ i, 0 ≤ i → i < 124 → hrw M' k i = g0 i := fun i i0 i1 => by
      have := (m2 i i0 i1).2
      rw [← ek] at this
      exact this
    refine ⟨WF_cg row x4, dgr_cgg row x4 ?_⟩
    rw [x1, slo_cg (b := M 19 1) (by omega)]
    exact x5
theorem x_prepare (hn : 0 ≤ M 19 1 ∧ M 19 1 < 7) (hw : WF g) (hd : dgr M 1 g) : ∃ M', E (d + 3) 65 [zR 19, zR 1] M = Rt none M' ∧ frr (slo (M 19 1)) (slo (M 19 1) + 8) M M' ∧ dgr M' (slo (M 19 1)) g := by
  have es : slo (M 19 1) = 21 + 9 * (M 19 1).toNat := by
    unfold slo
    rw [Int.emod_eq_of_lt hn.1 hn.2]
  obtain ⟨M1, e1, f1, d1⟩ := x_become (d := d) (D := 21 + 9 * (M 19 1).toNat) (F := 1) (zDn_s (by omega)) zDn_1 (by omega) hw hd
  rw [← es] at e1 f1 d1
  refine ⟨M1, ?_, f1, d1⟩
  rw [en_65, q_65_0, if_pos hn, ← es, e1, Cb_V, q_65_13]
def cmx (M : ZM) : ZM := zwr (zwr M 19 1 ((M 19 1 + 1) % 7)) 19 2 (if 6 < M 19 2 + 1 then 6 else M 19 2 + 1)
theorem x_commit (hn : 0 ≤ M 19 1 ∧ M 19 1 < 7) (hc : 0 ≤ M 19 2 ∧ M 19 2 ≤ 6) : E (d + 1) 66 [zR 19] M = Rt none (cmx M) := by
  have e : (zwr M 19 1 ((M 19 1 + 1) % 7)) 19 2 = M 19 2 := zwr_nj (by decide)
  rw [en_66, q_66_0, zw_id (x := M 19 1 + 1) (by omega), Int.tmod_eq_emod_of_nonneg (by omega), e, zw_id (x := M 19 2 + 1) (by omega)]
  rfl
theorem x_settled (hn : 0 ≤ M 19 1 ∧ M 19 1 < 7) (hc : 0 ≤ M 19 2 ∧ M 19 2 ≤ 6) (v : Int) : E (d + 2) 145 [zR 0, zI v] M = Rt (some (zI v)) (if v < 0 then M else cmx M) := by
  rw [en_145, q_145_0]
  by_cases h : v < 0
  · rw [if_pos h, if_pos h, q_145_11]
  · rw [if_neg h, if_neg h, x_commit hn hc, Cb_V, q_145_11]
theorem x_recolored (hn : 0 ≤ M 19 1 ∧ M 19 1 < 7) (hc : 0 ≤ M 19 2 ∧ M 19 2 ≤ 6) (v : Int) : E (d + 2) 146 [zR 0, zI v] M = Rt (some (zI v)) (if v < 0 ∧ v ≠ -104 then M else cmx M) := by
  rw [en_146, q_146_0]
  by_cases h : 0 ≤ v
  · rw [if_pos h, if_neg (by omega), x_commit hn hc, Cb_V, q_146_17]
  · rw [if_neg h]
    by_cases k : v = -104
    · rw [if_neg (fun q => q k), if_neg (by omega), x_commit hn hc, Cb_V, q_146_17]
    · rw [if_pos k, if_pos ⟨by omega, k⟩, q_146_17]
theorem cmx_n {b : Nat} (h : b ≠ 19) : cmx M b = M b := by
  unfold cmx
  rw [zwr_n h, zwr_n h]
theorem m_remembers : ∃ M', E (d + 1) 162 [zR 138] M = Rt none M' ∧ fr1 142 M M' ∧ agr 124 (M' 142) (M 139) := by
  rw [en_162, q_162_0]
  refine lpi (fun i (M1 : ZM) => Q d 162 2 [zR 138, zI i] [] M1) (fun o => ∃ M', o = Rt none M' ∧ fr1 142 M M' ∧ agr 124 (M' 142) (M 139)) 124 (fun i M1 => fr1 142 M M1 ∧ agr i (M1 142) (M 139)) ?_ ?_ 0 M (by omega) ⟨fr1_r, fun j h0 h1 => absurd h1 (by omega)⟩
  · rintro i M1 h0 h1 ⟨h2, h3⟩
    refine Or.inr ⟨zwr M1 142 i (M 139 i), ?_, fr1_w h2, ?_⟩
    · rw [q_162_2, if_neg (by omega), if_pos (by omega), if_pos (by omega), zw_id (by omega), h2 139 (by decide)]
    · intro j j0 j1
      rw [zwr_u]
      by_cases e : j = i
      · rw [e, up1_s]
      · rw [up1_n e]; exact h3 j j0 (by omega)
  · rintro M1 ⟨h2, h3⟩
    exact ⟨M1, by rw [q_162_2, if_pos (Int.le_refl _)], h2, h3⟩
/-- the same but for the reference's history -/
def fh (M M' : ZM) : Prop := (∀ b, b ≠ 138 → b ≠ 140 → M' b = M b) ∧ ∀ f, f ≠ 2 → M' 138 f = M 138 f
theorem fh_r : fh M M := ⟨fun _ _ _ => rfl, fun _ _ => rfl⟩
theorem fh_w {M' : ZM} {i v : Int} (h : fh M M') : fh M (zwr M' 140 i v) := ⟨fun b p q => (zwr_n q).trans (h.1 b p q), fun f hf => by rw [zwr_ne (by decide)]; exact h.2 f hf⟩
theorem fh_2 {M' : ZM} {v : Int} (h : fh M M') : fh M (zwr M' 138 2 v) := ⟨fun b p q => (zwr_n p).trans (h.1 b p q), fun f hf => by rw [zwr_nj hf]; exact h.2 f hf⟩
theorem m_changes (hn : 0 ≤ M 138 2 ∧ M 138 2 ≤ 6) : ∃ M', E (d + 1) 163 [zR 138] M = Rt none M' ∧ fh M M' ∧ hm1 M M' (M 142) := by
  rw [en_163, q_163_0]
  -- the rows that stay, then the new one
  have put : ∀ (M1 : ZM) (n : Int), 0 ≤ n → n ≤ 5 → fh M M1 → M1 138 2 = n → (∀ i, 0 ≤ i → i < 124 → ∀ k, 0 ≤ k → k < n → M1 140 (124 * k + i) = M 140 (124 * (k + (M 138 2 - n)) + i)) → n + 1 = (if M 138 2 = 6 then 6 else M 138 2 + 1) → ∃ M', Q d 163 51 [zR 138, zI 0] [] M1 = Rt none M' ∧ fh M M' ∧ hm1 M M' (M 142) := by
    intro M1 n n0 n1 f1 e1 r1 en
    refine lpi (fun i (M2 : ZM) => Q d 163 51 [zR 138, zI i] [] M2) (fun o => ∃ M', o = Rt none M' ∧ fh M M' ∧ hm1 M M' (M 142)) 124 (fun i M2 => fh M M2 ∧ M2 138 2 = n ∧ (∀ j, j < 124 * n → M2 140 j = M1 140 j) ∧ ∀ j, 0 ≤ j → j < i → M2 140 (124 * n + j) = M 142 j) ?_ ?_ 0 M1 (by omega) ⟨f1, e1, fun _ _ => rfl, fun j j0 j1 => absurd j1 (by omega)⟩
    · rintro i M2 i0 i1 ⟨f2, e2, a2, b2⟩
      have z : zw (zw (124 * n) + i) = 124 * n + i := by unfold zw; omega
      refine Or.inr ⟨zwr M2 140 (124 * n + i) (M 142 i), ?_, fh_w f2, by rw [zwr_ne (by decide)]; exact e2, fun j hj => by rw [zwr_nj (by omega)]; exact a2 j hj, fun j j0 j1 => ?_⟩
      · rw [q_163_51, if_neg (by omega), if_pos ⟨i0, i1⟩, e2, z, if_pos (by omega), zw_id (by omega), f2.1 142 (by decide) (by decide)]
      · by_cases q : j = i
        · rw [q, zwr_at]
        · rw [zwr_nj (by omega)]
          exact b2 j j0 (by omega)
    · rintro M2 ⟨f2, e2, a2, b2⟩
      refine ⟨zwr M2 138 2 (n + 1), by rw [q_163_51, if_pos (Int.le_refl _), e2, zw_id (by omega)], fh_2 f2, ?_⟩
      have c1 : (zwr M2 138 2 (n + 1)) 138 2 = n + 1 := zwr_at
      refine ⟨c1.trans en, fun i i0 i1 => ⟨fun k k0 k1 => ?_, ?_⟩⟩
      · rw [c1] at k1 ⊢
        rw [zwr_ne (by decide), a2 _ (by omega), r1 i i0 i1 k k0 (by omega), show M 138 2 + 1 - (n + 1) = M 138 2 - n by omega]
      · rw [c1, zwr_ne (by decide), show n + 1 - 1 = n by omega]
        exact b2 i i0 i1
  by_cases h : M 138 2 = 6
  · rw [if_neg (fun q => q h)]
    refine lpi (fun i (M1 : ZM) => Q d 163 11 [zR 138, zI i] [] M1) (fun o => ∃ M', o = Rt none M' ∧ fh M M' ∧ hm1 M M' (M 142)) 620 (fun i M1 => fh M M1 ∧ M1 138 2 = 6 ∧ (∀ j, 0 ≤ j → j < i → M1 140 j = M 140 (j + 124)) ∧ ∀ j, i ≤ j → M1 140 j = M 140 j) ?_ ?_ 0 M (by omega) ⟨fh_r, h, fun j j0 j1 => absurd j1 (by omega), fun _ _ => rfl⟩
    · rintro i M1 i0 i1 ⟨f1, e1, a1, b1⟩
      refine Or.inr ⟨zwr M1 140 i (M 140 (i + 124)), ?_, fh_w f1, by rw [zwr_ne (by decide)]; exact e1, fun j j0 j1 => ?_, fun j hj => ?_⟩
      · rw [q_163_11, if_neg (by omega), zw_id (x := i + 124) (by omega), if_pos (by omega), if_pos (by omega), zw_id (by omega), b1 _ (by omega)]
      · by_cases q : j = i
        · rw [q, zwr_at]
        · rw [zwr_nj q]
          exact a1 j j0 (by omega)
      · rw [zwr_nj (by omega)]
        exact b1 j (by omega)
    · rintro M1 ⟨f1, e1, a1, b1⟩
      rw [q_163_11, if_pos (Int.le_refl _), e1]
      refine put (zwr M1 138 2 (zw (6 - 1))) 5 (by omega) (by omega) (fh_2 f1) (by rw [zwr_at]; rfl) (fun i i0 i1 k k0 k1 => ?_) (by rw [if_pos h]; rfl)
      rw [zwr_ne (by decide), a1 _ (by omega) (by omega), h, show 124 * k + i + 124 = 124 * (k + (6 - 5)) + i by omega]
  · rw [if_pos h]
    exact put M (M 138 2) hn.1 (by omega) fh_r rfl (fun i i0 i1 k k0 k1 => by rw [Int.sub_self, Int.add_zero]) (by rw [if_neg h])
/-- what both hold in common: a saved copy, a text, all -/
def SV (M : ZM) : Prop := (M 0 9 = 0 ∨ M 0 9 = 1) ∧ M 138 4 = M 0 9 ∧ (M 0 9 = 1 → WF (M 141) ∧ dgr M 10 (M 141))
def TX (M : ZM) : Prop := (0 ≤ M 84 5 ∧ M 84 5 ≤ 60) ∧ M 138 17 = M 84 5 ∧ (∀ i, 0 ≤ i → i < M 84 5 → M 148 i = M 85 i ∧ 33 ≤ M 85 i ∧ M 85 i ≤ 126) ∧ M 138 18 = M 84 7
def RL (S : Int → Int) (M : ZM) : Prop := M zSC = S ∧ WF (M 139) ∧ dgr M 1 (M 139) ∧ HI M ∧ SV M ∧ TX M
theorem SV_cg {M' : ZM} (h : SV M) (h0 : M' 0 = M 0) (h1 : ∀ b, 10 ≤ b → b ≤ 18 → M' b = M b) (h2 : M' 138 4 = M 138 4) (h3 : M' 141 = M 141) : SV M' := by
  obtain ⟨k1, k2, k3⟩ := h
  unfold SV
  rw [h0, h2, h3]
  exact ⟨k1, k2, fun q => ⟨(k3 q).1, dgr_cg (fun b b0 b1 => h1 b b0 (by omega)) (k3 q).2⟩⟩
theorem TX_cg {M' : ZM} (h : TX M) (h0 : M' 84 = M 84) (h1 : M' 85 = M 85) (h2 : M' 138 17 = M 138 17) (h3 : M' 148 = M 148) (h4 : M' 138 18 = M 138 18) : TX M' := by
  unfold TX at *
  rw [h0, h1, h2, h3, h4]
  exact h
theorem zSC_b : (152 : Nat) < zSC := by decide
/-- a question leaves all as it was -/
theorem RL_q {S : Int → Int} {M1 M2 : ZM} (h : RL S M) (f : frr 109 137 M M1) (k : fm M1 M2) : RL S M2 := by
  have b : ∀ b, b < 109 ∨ 152 < b ∨ b = 139 ∨ b = 140 ∨ b = 141 ∨ b = 148 → M2 b = M b := fun b hb => (k.1 b (by omega)).trans (f b (by omega))
  have p : ∀ i, prs i → M2 138 i = M 138 i := fun i hi => (k.2 i hi).trans (by rw [f 138 (by omega)])
  have z := zSC_b
  obtain ⟨h1, h2, h3, h4, h5, h6⟩ := h
  have e := b 139 (by omega)
  refine ⟨(b zSC (by omega)).trans h1, by rw [e]; exact h2, by rw [e]; exact dgr_cg (fun c c0 c1 => b c (by omega)) h3, HI_0 h4 ⟨b 19 (by omega), fun c c0 _ => b c (by omega)⟩ ⟨p 2 (by unfold prs; omega), b 140 (by omega)⟩, SV_cg h5 (b 0 (by omega)) (fun c c0 c1 => b c (by omega)) (p 4 (by unfold prs; omega)) (b 141 (by omega)), TX_cg h6 (b 84 (by omega)) (b 85 (by omega)) (p 17 (by unfold prs; omega)) (b 148 (by omega)) (p 18 (by unfold prs; omega))⟩
/-- a call that both answer alike -/
def uok (d kx km : Nat) (as : List ZV) (S : Int → Int) (M : ZM) : Prop := ∃ v M1 M2, E d kx (zR 0 :: as) M = Rt (some v) M1 ∧ E d km (zR 138 :: as) M1 = Rt (some v) M2 ∧ RL S M2
theorem uok_q {kx km : Nat} {as : List ZV} {S : Int → Int} (h : RL S M) (k : qok d kx km as M) : uok d kx km as S M := by
  obtain ⟨v, M1, M2, e1, f1, e2, f2⟩ := k
  exact ⟨v, M1, M2, e1, e2, RL_q h f1 f2⟩
end
