/-! the rooms of a build -/
section
variable {g : Int → Int}
theorem e_roomq {x y w h : Int} (hw : WF g) (hl : lies x y w h) (hm : meets g x y w h = -1) (hR' : 0 ≤ g 120 ∧ g 120 < 12) : (∀ d M, dgr M 1 g → ∃ M', E (d + 8) 17 [zR 1, zI x, zI y, zI w, zI h] M = Rt (some (zI (g 120))) M' ∧ frr 1 9 M M' ∧ dgr M' 1 (gAdd g x y w h)) ∧ ∀ d M, M 139 = g → ∃ M', E (d + 8) 166 [zR 138, zI x, zI y, zI w, zI h] M = Rt (some (zI (g 120))) M' ∧ fr1 139 M M' ∧ M' 139 = gAdd g x y w h := by
  have hR := wf_R hw
  have hn : g 120 ≠ 12 := by omega
  have hl' := hl
  unfold lies at hl'
  have ex : ∀ d M, dgr M 1 g → E (d + 8) 17 [zR 1, zI x, zI y, zI w, zI h] M = Q (d + 7) 17 23 [zR 1, zI x, zI y, zI w, zI h] [zI (if meets g x y w h = -1 then 0 else 1)] M := by
    intro d M hd
    rw [en_17, q_17_0, x_lies, Cb_I, q_17_8, if_pos (bI_n0.2 hl), x_meets hw hd hl, Cb_I]
  have em : ∀ d M, M 139 = g → E (d + 8) 166 [zR 138, zI x, zI y, zI w, zI h] M = Q (d + 7) 166 52 [zR 138, zI x, zI y, zI w, zI h, zI x, zU] [] M := by
    intro d M hg
    rw [en_166, q_166_0, m_in, Cb_I, q_166_7, if_neg (bI_n0.2 hl'.1), m_in, Cb_I, q_166_18, if_neg (bI_n0.2 hl'.2.1), zw_id (x := 24 - w) (by omega), m_in, Cb_I, q_166_30, if_neg (bI_n0.2 (by omega)), zw_id (x := 16 - h) (by omega), m_in, Cb_I, q_166_43, if_pos (bI_n0.2 (by omega))]
  rw [hm, if_pos rfl] at ex
  have em' : ∀ d M, M 139 = g → ∃ z, E (d + 8) 166 [zR 138, zI x, zI y, zI w, zI h] M = Q (d + 7) 166 52 [zR 138, zI x, zI y, zI w, zI h, zI (x + w), z] [] M := by
    intro d M hg
    rcases m_cells (d := d + 5) (M := M) (z6 := zU) (by rw [hg]; exact hw) hl with k | ⟨_, z, k⟩
    · rw [hg] at k
      exact absurd hm k.2
    · exact ⟨z, (em d M hg).trans k⟩
  obtain ⟨n1, n2, n3, n4, n5, n6⟩ := gAdd_n (g := g) (x := x) (y := y) (w := w) (h := h) hR'
  refine ⟨fun d M hd => ?_, fun d M hg => ?_⟩
  · refine ⟨zwr (zwr (zwr (zwr (zwr (zwr M 2 (g 120) x) 3 (g 120) y) 4 (g 120) w) 5 (g 120) h) 6 (g 120) (-1)) 1 8 (g 120 + 1), ?_, ?_, ?_⟩
    · rw [ex d M hd, q_17_23, if_pos rfl]
      simp only [zwr_ne (show (1 : Nat) ≠ 2 by decide), zwr_ne (show (1 : Nat) ≠ 3 by decide), zwr_ne (show (1 : Nat) ≠ 4 by decide), zwr_ne (show (1 : Nat) ≠ 5 by decide), zwr_ne (show (1 : Nat) ≠ 6 by decide), zwr_at, h1R hd]
      rw [if_pos (by omega), if_pos hR', if_pos hR', if_pos hR', if_pos hR', if_pos hR', zw_id (x := g 120 + 1) (by omega), zw_id (by omega), show g 120 + 1 - 1 = g 120 by omega]
    · intro b hb
      rw [zwr_n (by omega), zwr_n (by omega), zwr_n (by omega), zwr_n (by omega), zwr_n (by omega), zwr_n (by omega)]
    · refine ⟨⟨?_, ?_, ?_, ?_⟩, fun r r0 r1 => ?_, fun c c0 c1 => ?_⟩
      · rw [zwr_at, n6]
      · rw [zwr_nj (by decide), zwr_ne (by decide), zwr_ne (by decide), zwr_ne (by decide), zwr_ne (by decide), zwr_ne (by decide), h1W hd, gAdd_o (by omega) (by omega)]
      · rw [zwr_nj (by decide), zwr_ne (by decide), zwr_ne (by decide), zwr_ne (by decide), zwr_ne (by decide), zwr_ne (by decide), h1E hd, gAdd_o (by omega) (by omega)]
      · rw [zwr_nj (by decide), zwr_ne (by decide), zwr_ne (by decide), zwr_ne (by decide), zwr_ne (by decide), zwr_ne (by decide), h1U hd, gAdd_o (by omega) (by omega)]
      · rw [n6] at r1
        unfold dgR
        rw [zwr_ne (by decide), zwr_ne (by decide), zwr_ne (by decide), zwr_ne (by decide), zwr_ne (by decide), zwr_ne (show (1 + 2 : Nat) ≠ 1 by decide), zwr_ne (show (1 + 2 : Nat) ≠ 6 by decide), zwr_ne (show (1 + 2 : Nat) ≠ 5 by decide), zwr_ne (show (1 + 2 : Nat) ≠ 4 by decide), zwr_ne (show (1 + 3 : Nat) ≠ 1 by decide), zwr_ne (show (1 + 3 : Nat) ≠ 6 by decide), zwr_ne (show (1 + 3 : Nat) ≠ 5 by decide), zwr_ne (show (1 + 4 : Nat) ≠ 1 by decide), zwr_ne (show (1 + 4 : Nat) ≠ 6 by decide), zwr_ne (show (1 + 5 : Nat) ≠ 1 by decide)]
        by_cases e : r = g 120
        · rw [e, n1, n2, n3, n4, n5]
          exact ⟨zwr_at, zwr_at, zwr_at, zwr_at, zwr_at⟩
        · obtain ⟨o1, o2, o3, o4, o5⟩ := gAdd_r (g := g) (x := x) (y := y) (w := w) (h := h) (r := r) hR' (by omega)
          rw [o1, o2, o3, o4, o5]
          simp only [zwr_nj e]
          exact hd.2.1 r r0 (by omega)
      · have wW := wf_W hw
        rw [gAdd_o (by omega) (by omega)] at c1
        obtain ⟨o1, o2, o3⟩ := gAdd_c (g := g) (x := x) (y := y) (w := w) (h := h) (c := c) hR' (by omega)
        have k := hd.2.2 c c0 c1
        unfold dgC at k ⊢
        rw [o1, o2, o3]
        refine ⟨?_, ?_, ?_⟩
        · rw [zwr_ne (by decide), zwr_ne (by decide), zwr_ne (by decide), zwr_ne (by decide), zwr_ne (by decide), zwr_ne (by decide)]
          exact k.1
        · rw [zwr_ne (by decide), zwr_ne (by decide), zwr_ne (by decide), zwr_ne (by decide), zwr_ne (by decide), zwr_ne (by decide)]
          exact k.2.1
        · rw [zwr_ne (by decide), zwr_ne (by decide), zwr_ne (by decide), zwr_ne (by decide), zwr_ne (by decide), zwr_ne (by decide)]
          exact k.2.2
  · obtain ⟨z, e⟩ := em' d M hg
    have z0 : zw (0 + zw (5 * g 120)) = 5 * g 120 := by unfold zw; omega
    have z1 : zw (5 * g 120 + 1) = 5 * g 120 + 1 := zw_id (by omega)
    have z2 : zw (5 * g 120 + 2) = 5 * g 120 + 2 := zw_id (by omega)
    have z3 : zw (5 * g 120 + 3) = 5 * g 120 + 3 := zw_id (by omega)
    have z4 : zw (5 * g 120 + 4) = 5 * g 120 + 4 := zw_id (by omega)
    refine ⟨zwr (zwr (zwr (zwr (zwr (zwr M 139 (5 * g 120) x) 139 (5 * g 120 + 1) y) 139 (5 * g 120 + 2) w) 139 (5 * g 120 + 3) h) 139 (5 * g 120 + 4) (-1)) 139 120 (g 120 + 1), ?_, ?_, ?_⟩
    · rw [e, q_166_52, zw_id (x := x + w) (by omega), if_pos (Int.le_refl _)]
      simp only [hg, z0, z1, z2, z3, z4, zwr_at, zwr_nj (show (120 : Int) ≠ 5 * g 120 by omega), zwr_nj (show (120 : Int) ≠ 5 * g 120 + 1 by omega), zwr_nj (show (120 : Int) ≠ 5 * g 120 + 2 by omega), zwr_nj (show (120 : Int) ≠ 5 * g 120 + 3 by omega), zwr_nj (show (120 : Int) ≠ 5 * g 120 + 4 by omega)]
      rw [if_pos hn, if_pos (by omega), if_pos (by omega), if_pos (by omega), if_pos (by omega), if_pos (by omega), zw_id (x := g 120 + 1) (by omega), zw_id (by omega), show g 120 + 1 - 1 = g 120 by omega]
    · exact fr1_w (fr1_w (fr1_w (fr1_w (fr1_w (fr1_w fr1_r)))))
    · rw [zwr_u, zwr_u, zwr_u, zwr_u, zwr_u, zwr_u, hg]
      rfl
def kpr (g g' : Int → Int) : Prop := g' 120 = g 120 ∧ ∀ r, 0 ≤ r → r < g 120 → gX g' r = gX g r ∧ gY g' r = gY g r ∧ gW g' r = gW g r ∧ gH g' r = gH g r
def edq (kx km : Nat) (as : List ZV) (g : Int → Int) : Prop := ∃ (v : Int) (g' : Int → Int), WF g' ∧ (v < 0 → v ≠ -104 → g' = g) ∧ kpr g g' ∧ (∀ d M, dgr M 1 g → ∃ M', E (d + 8) kx (zR 1 :: as) M = Rt (some (zI v)) M' ∧ frr 1 9 M M' ∧ dgr M' 1 g') ∧ (∀ d M, M 139 = g → ∃ M', E (d + 8) km (zR 138 :: as) M = Rt (some (zI v)) M' ∧ fr1 139 M M' ∧ M' 139 = g')
theorem edq_no {kx km : Nat} {as : List ZV} (hw : WF g) (v : Int) (h1 : ∀ d M, dgr M 1 g → E (d + 8) kx (zR 1 :: as) M = Rt (some (zI v)) M) (h2 : ∀ d M, M 139 = g → E (d + 8) km (zR 138 :: as) M = Rt (some (zI v)) M) : edq kx km as g := ⟨v, g, hw, fun _ _ => rfl, ⟨rfl, fun _ _ _ => ⟨rfl, rfl, rfl, rfl⟩⟩, fun d M hd => ⟨M, h1 d M hd, frr_r, hd⟩, fun d M hg => ⟨M, h2 d M hg, fr1_r, hg⟩⟩
theorem e_corq (hw : WF g) (a b : Int) : edq 20 168 [zI a, zI b] g := by
  have hR := wf_R hw
  have hW := wf_W hw
  have ex : ∀ d M, dgr M 1 g → E (d + 8) 20 [zR 1, zI a, zI b] M = Q (d + 7) 20 5 [zR 1, zI a, zI b] [zI (bI (0 ≤ a ∧ a < g 120))] M := fun d M hd => by rw [en_20, q_20_0, x_hasRoom hd, Cb_I]
  have em : ∀ d M, M 139 = g → E (d + 8) 168 [zR 138, zI a, zI b] M = Q (d + 7) 168 5 [zR 138, zI a, zI b, zU] [zI (bI (0 ≤ a ∧ a < g 120))] M := fun d M hg => by rw [en_168, q_168_0, m_isRoom _ (by rw [hg]; exact hR), Cb_I, hg]
  by_cases ha : 0 ≤ a ∧ a < g 120
  · have ex1 : ∀ d M, dgr M 1 g → E (d + 8) 20 [zR 1, zI a, zI b] M = Q (d + 7) 20 13 [zR 1, zI a, zI b] [zI (bI (0 ≤ b ∧ b < g 120))] M := fun d M hd => by rw [ex d M hd, q_20_5, if_neg (bI_n0.2 ha), x_hasRoom hd, Cb_I]
    have em1 : ∀ d M, M 139 = g → E (d + 8) 168 [zR 138, zI a, zI b] M = Q (d + 7) 168 13 [zR 138, zI a, zI b, zU] [zI (bI (0 ≤ b ∧ b < g 120))] M := fun d M hg => by rw [em d M hg, q_168_5, if_neg (bI_n0.2 ha), m_isRoom _ (by rw [hg]; exact hR), Cb_I, hg]
    by_cases hb : 0 ≤ b ∧ b < g 120
    · by_cases hab : a = b
      · refine edq_no hw (-102) (fun d M hd => ?_) (fun d M hg => ?_)
        · rw [ex1 d M hd, q_20_13, if_pos (bI_n0.2 hb), if_neg (fun q => q hab)]
        · rw [em1 d M hg, q_168_13, if_pos (bI_n0.2 hb), if_neg (fun q => q hab)]
      · have ex2 : ∀ d M, dgr M 1 g → E (d + 8) 20 [zR 1, zI a, zI b] M = Q (d + 7) 20 33 [zR 1, zI a, zI b] [zI (wayF g a b)] M := fun d M hd => by rw [ex1 d M hd, q_20_13, if_pos (bI_n0.2 hb), if_pos hab, x_between hw hd, Cb_I]
        have em2 : ∀ d M, M 139 = g → E (d + 8) 168 [zR 138, zI a, zI b] M = Q (d + 7) 168 33 [zR 138, zI a, zI b, zU] [zI (wayF g a b)] M := fun d M hg => by rw [em1 d M hg, q_168_13, if_pos (bI_n0.2 hb), if_pos hab, m_wayBetween (by rw [hg]; exact hW), Cb_I, hg]
        have wr := wayF_rg hw (a := a) (b := b)
        by_cases hf : wayF g a b = -1
        · by_cases hn : g 121 = 20
          · refine edq_no hw (-103) (fun d M hd => ?_) (fun d M hg => ?_)
            · rw [ex2 d M hd, q_20_33, if_pos hf, h1W hd, if_neg (by omega)]
            · rw [em2 d M hg, q_168_33, if_pos (by omega), hg, if_neg (fun q => q hn)]
          · have hW' : 0 ≤ g 121 ∧ g 121 < 20 := by omega
            -- the lower and the higher room
            have main : ∀ lo hi : Int, (lo = if b < a then b else a) → (hi = if a < b then b else a) → (0 ≤ lo ∧ lo < hi ∧ hi < g 120) → wayF g lo hi = -1 → edq 20 168 [zI a, zI b] g := by
              intro lo hi hlo hhi hlh hf2
              obtain ⟨n1, n2, n3, n4⟩ := gCor_n (g := g) (a := lo) (b := hi) hW'
              refine ⟨g 121, gCor g lo hi, gCor_WF hw hlh hf2 hW'.2, fun z => by omega, ⟨gCor_o (by omega) (by omega), fun r r0 r1 => ?_⟩, fun d M hd => ?_, fun d M hg => ?_⟩
              · obtain ⟨o1, o2, o3, o4, o5⟩ := gCor_r (g := g) (a := lo) (b := hi) (r := r) hW' (by omega)
                exact ⟨o1, o2, o3, o4⟩
              · refine ⟨zwr (zwr (zwr (zwr M 7 (g 121) lo) 8 (g 121) hi) 9 (g 121) (-1)) 1 9 (g 121 + 1), ?_, ?_, ?_⟩
                · rw [ex2 d M hd, q_20_33, if_pos hf, ← hlo, ← hhi]
                  simp only [zwr_ne (show (1 : Nat) ≠ 7 by decide), zwr_ne (show (1 : Nat) ≠ 8 by decide), zwr_ne (show (1 : Nat) ≠ 9 by decide), zwr_at, h1W hd]
                  rw [if_pos (by omega), if_pos hW', if_pos hW', if_pos hW', zw_id (x := g 121 + 1) (by omega), zw_id (by omega), show g 121 + 1 - 1 = g 121 by omega]
                · intro b hb
                  rw [zwr_n (by omega), zwr_n (by omega), zwr_n (by omega), zwr_n (by omega)]
                · refine ⟨⟨?_, ?_, ?_, ?_⟩, fun r r0 r1 => ?_, fun c c0 c1 => ?_⟩
                  · rw [zwr_nj (by decide), zwr_ne (by decide), zwr_ne (by decide), zwr_ne (by decide), h1R hd, gCor_o (by omega) (by omega)]
                  · rw [zwr_at, n4]
                  · rw [zwr_nj (by decide), zwr_ne (by decide), zwr_ne (by decide), zwr_ne (by decide), h1E hd, gCor_o (by omega) (by omega)]
                  · rw [zwr_nj (by decide), zwr_ne (by decide), zwr_ne (by decide), zwr_ne (by decide), h1U hd, gCor_o (by omega) (by omega)]
                  · rw [gCor_o (by omega) (by omega)] at r1
                    obtain ⟨o1, o2, o3, o4, o5⟩ := gCor_r (g := g) (a := lo) (b := hi) (r := r) hW' (by omega)
                    have k := hd.2.1 r r0 r1
                    unfold dgR at k ⊢
                    rw [o1, o2, o3, o4, o5]
                    refine ⟨?_, ?_, ?_, ?_, ?_⟩ <;> rw [zwr_ne (by decide), zwr_ne (by decide), zwr_ne (by decide), zwr_ne (by decide)]
                    · exact k.1
                    · exact k.2.1
                    · exact k.2.2.1
                    · exact k.2.2.2.1
                    · exact k.2.2.2.2
                  · rw [n4] at c1
                    unfold dgC
                    by_cases e : c = g 121
                    · rw [e, n1, n2, n3]
                      refine ⟨?_, ?_, ?_⟩
                      · rw [zwr_ne (by decide), zwr_ne (by decide), zwr_ne (by decide)]
                        exact zwr_at
                      · rw [zwr_ne (by decide), zwr_ne (by decide)]
                        exact zwr_at
                      · rw [zwr_ne (by decide)]
                        exact zwr_at
                    · obtain ⟨o1, o2, o3⟩ := gCor_c (g := g) (a := lo) (b := hi) (c := c) hW' (by omega)
                      rw [o1, o2, o3, zwr_ne (by decide), zwr_ne (show (1 + 7 : Nat) ≠ 1 by decide), zwr_ne (show (1 + 8 : Nat) ≠ 1 by decide)]
                      simp only [zwr_nj e]
                      exact hd.2.2 c c0 (by omega)
              · have z0 : zw (60 + zw (3 * g 121)) = 60 + 3 * g 121 := by unfold zw; omega
                have z1 : zw (60 + 3 * g 121 + 1) = 60 + 3 * g 121 + 1 := zw_id (by omega)
                have z2 : zw (60 + 3 * g 121 + 2) = 60 + 3 * g 121 + 2 := zw_id (by omega)
                refine ⟨zwr (zwr (zwr (zwr M 139 (60 + 3 * g 121) lo) 139 (60 + 3 * g 121 + 1) hi) 139 (60 + 3 * g 121 + 2) (-1)) 139 121 (g 121 + 1), ?_, ?_, ?_⟩
                · have at82 : Q (d + 7) 168 82 [zR 138, zI a, zI b, zI (60 + 3 * g 121)] [zI lo, zI (60 + 3 * g 121), zR 139] M = Rt (some (zI (g 121))) (zwr (zwr (zwr (zwr M 139 (60 + 3 * g 121) lo) 139 (60 + 3 * g 121 + 1) hi) 139 (60 + 3 * g 121 + 2) (-1)) 139 121 (g 121 + 1)) := by
                    rw [q_168_82, if_pos (by omega)]
                    simp only [hg, z1, z2, zwr_at, zwr_nj (show (121 : Int) ≠ 60 + 3 * g 121 by omega), zwr_nj (show (121 : Int) ≠ 60 + 3 * g 121 + 1 by omega), zwr_nj (show (121 : Int) ≠ 60 + 3 * g 121 + 2 by omega)]
                    by_cases k : b ≤ a
                    · have e : hi = a := by rw [hhi, if_neg (by omega)]
                      rw [if_pos k, if_pos (by omega), if_pos (by omega), zw_id (x := g 121 + 1) (by omega), zw_id (by omega), show g 121 + 1 - 1 = g 121 by omega, e]
                    · have e : hi = b := by rw [hhi, if_pos (by omega)]
                      rw [if_neg k, if_pos (by omega), if_pos (by omega), zw_id (x := g 121 + 1) (by omega), zw_id (by omega), show g 121 + 1 - 1 = g 121 by omega, e]
                  rw [em2 d M hg, q_168_33, if_pos (by omega), hg, if_pos hn, z0]
                  by_cases k : b ≤ a
                  · have e : lo = b := by rw [hlo, if_pos (by omega)]
                    rw [if_pos k, ← e]
                    rw [e] at at82 ⊢
                    exact at82
                  · have e : lo = a := by rw [hlo, if_neg (by omega)]
                    rw [if_neg k]
                    rw [e] at at82 ⊢
                    exact at82
                · exact fr1_w (fr1_w (fr1_w (fr1_w fr1_r)))
                · rw [zwr_u, zwr_u, zwr_u, zwr_u, hg]
                  rfl
            by_cases k : a < b
            · exact main a b (by rw [if_neg (by omega)]) (by rw [if_pos k]) (by omega) hf
            · exact main b a (by rw [if_pos (by omega)]) (by rw [if_neg k]) (by omega) (by rw [wayF_sy]; exact hf)
        · refine edq_no hw (-106) (fun d M hd => ?_) (fun d M hg => ?_)
          · rw [ex2 d M hd, q_20_33, if_neg hf]
          · rw [em2 d M hg, q_168_33, if_neg (by omega)]
    · refine edq_no hw (-101) (fun d M hd => ?_) (fun d M hg => ?_)
      · rw [ex1 d M hd, q_20_13, if_neg (fun q => q (bI_0.2 hb))]
      · rw [em1 d M hg, q_168_13, if_neg (fun q => q (bI_0.2 hb))]
  · refine edq_no hw (-101) (fun d M hd => ?_) (fun d M hg => ?_)
    · rw [ex d M hd, q_20_5, if_pos (bI_0.2 ha)]
    · rw [em d M hg, q_168_5, if_pos (bI_0.2 ha)]
/-- the room in a part left uncut, as both draw it -/
def mn3 (t : Int) : Int := if 3 + t < 12 then 3 + t else 12
def qW (P : ZM) (i r : Int) : Int := mn3 (drv (nxr r) (P 3 i - 4))
def qH (P : ZM) (i r : Int) : Int := mn3 (drv (nxr (nxr r)) (P 4 i - 4))
def qX (P : ZM) (i r : Int) : Int := P 1 i + 1 + drv (nxr (nxr (nxr r))) (P 3 i - qW P i r - 1)
def qY (P : ZM) (i r : Int) : Int := P 2 i + 1 + drv (nxr (nxr (nxr (nxr r)))) (P 4 i - qH P i r - 1)
theorem mn3_rg {t n : Int} (h : 0 ≤ t ∧ t < n - 4) : 3 ≤ mn3 t ∧ mn3 t ≤ 12 ∧ mn3 t ≤ n - 2 := by
  unfold mn3
  split <;> omega
/-- the room j of a dungeon lies in the part j -/
def rin (P : ZM) (g : Int → Int) (j : Int) : Prop := (P 1 j ≤ gX g j ∧ gX g j + gW g j ≤ P 1 j + P 3 j) ∧ P 2 j ≤ gY g j ∧ gY g j + gH g j ≤ P 2 j + P 4 j
theorem q_geo {P : ZM} {i r : Int} (hw : WF g) (hi : g 120 = i) (pi : pin P i 0 0 24 16) (sep : ∀ j, 0 ≤ j → j < i → psep P j i ∧ rin P g j) : ((3 ≤ qW P i r ∧ qW P i r ≤ P 3 i - 2) ∧ 3 ≤ qH P i r ∧ qH P i r ≤ P 4 i - 2) ∧ lies (qX P i r) (qY P i r) (qW P i r) (qH P i r) ∧ meets g (qX P i r) (qY P i r) (qW P i r) (qH P i r) = -1 ∧ (P 1 i ≤ qX P i r ∧ qX P i r + qW P i r ≤ P 1 i + P 3 i) ∧ P 2 i ≤ qY P i r ∧ qY P i r + qH P i r ≤ P 2 i + P 4 i := by
  unfold pin at pi
  have w1 : 3 ≤ qW P i r ∧ qW P i r ≤ 12 ∧ qW P i r ≤ P 3 i - 2 := mn3_rg (drv_rg (by omega))
  have h1 : 3 ≤ qH P i r ∧ qH P i r ≤ 12 ∧ qH P i r ≤ P 4 i - 2 := mn3_rg (drv_rg (by omega))
  have x1 := drv_rg (r := nxr (nxr (nxr r))) (n := P 3 i - qW P i r - 1) (by omega)
  have y1 := drv_rg (r := nxr (nxr (nxr (nxr r)))) (n := P 4 i - qH P i r - 1) (by omega)
  have x2 : qX P i r = P 1 i + 1 + drv (nxr (nxr (nxr r))) (P 3 i - qW P i r - 1) := rfl
  have y2 : qY P i r = P 2 i + 1 + drv (nxr (nxr (nxr (nxr r)))) (P 4 i - qH P i r - 1) := rfl
  refine ⟨by omega, by unfold lies; omega, fs_no (fun j j0 j1 k => ?_), by omega, by omega, by omega⟩
  have s := sep j j0 (by omega)
  unfold psep rin at s
  unfold meetR at k
  omega
/-- the rooms drawn so far: the random number and the row -/
def rmS (P : ZM) (i : Int) (s : Int × (Int → Int)) : Int × (Int → Int) := (nxr (nxr (nxr (nxr s.1))), gAdd s.2 (qX P i s.1) (qY P i s.1) (qW P i s.1) (qH P i s.1))
def rmI (P : ZM) (g : Int → Int) (n : Int) : Int × (Int → Int) := its (rmS P) (P 0 0, g) n
def rmK (P : ZM) (i : Int) (s : Int × (Int → Int)) : Prop := WF s.2 ∧ s.2 120 = i ∧ ∀ j, 0 ≤ j → j < i → rin P s.2 j
theorem rmS_K {P : ZM} {i : Int} {s : Int × (Int → Int)} (h : rmK P i s) (i0 : 0 ≤ i ∧ i < 12) (pi : pin P i 0 0 24 16) (sep : ∀ j, 0 ≤ j → j < i → psep P j i) : rmK P (i + 1) (rmS P i s) := by
  obtain ⟨h1, h2, h3⟩ := h
  obtain ⟨q1, q2, q3, q4, q5⟩ := q_geo (r := s.1) h1 h2 pi (fun j j0 j1 => ⟨sep j j0 j1, h3 j j0 j1⟩)
  obtain ⟨n1, n2, n3, n4, n5, n6⟩ := gAdd_n (g := s.2) (x := qX P i s.1) (y := qY P i s.1) (w := qW P i s.1) (h := qH P i s.1) (by omega)
  have e2 : (rmS P i s).2 = gAdd s.2 (qX P i s.1) (qY P i s.1) (qW P i s.1) (qH P i s.1) := rfl
  refine ⟨by rw [e2]; exact gAdd_WF h1 q2 q3 (by omega), by rw [e2, n6, h2], fun j j0 j1 => ?_⟩
  unfold rin
  rw [e2]
  by_cases e : j = i
  · rw [h2] at n1 n2 n3 n4
    rw [e, n1, n2, n3, n4]
    omega
  · obtain ⟨o1, o2, o3, o4, o5⟩ := gAdd_r (g := s.2) (x := qX P i s.1) (y := qY P i s.1) (w := qW P i s.1) (h := qH P i s.1) (r := j) (by omega) (by omega)
    rw [o1, o2, o3, o4]
    exact h3 j j0 (by omega)
end
