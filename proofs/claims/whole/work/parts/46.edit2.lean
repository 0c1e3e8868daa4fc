/-! a new corridor; locks, keys, the entrance -/
section
variable {g : Int → Int}
def gCor (g : Int → Int) (a b : Int) : Int → Int := up1 (up1 (up1 (up1 g (60 + 3 * g 121) a) (60 + 3 * g 121 + 1) b) (60 + 3 * g 121 + 2) (-1)) 121 (g 121 + 1)
theorem gCor_o {a b i : Int} (h1 : i ≠ 121) (h2 : i < 60 + 3 * g 121 ∨ 60 + 3 * g 121 + 2 < i) : gCor g a b i = g i := by
  unfold gCor
  rw [up1_n h1, up1_n (by omega), up1_n (by omega), up1_n (by omega)]
theorem gCor_n {a b : Int} (hW : 0 ≤ g 121 ∧ g 121 < 20) : gA (gCor g a b) (g 121) = a ∧ gB (gCor g a b) (g 121) = b ∧ gL (gCor g a b) (g 121) = -1 ∧ gCor g a b 121 = g 121 + 1 := by
  unfold gA gB gL gCor up1
  refine ⟨?_, ?_, ?_, ?_⟩ <;> repeat (first | rw [if_pos (by omega)] | rw [if_neg (by omega)])
theorem gCor_c {a b c : Int} (hW : 0 ≤ g 121 ∧ g 121 < 20) (hc : 0 ≤ c ∧ c < g 121) : gA (gCor g a b) c = gA g c ∧ gB (gCor g a b) c = gB g c ∧ gL (gCor g a b) c = gL g c := by
  unfold gA gB gL
  refine ⟨gCor_o ?_ ?_, gCor_o ?_ ?_, gCor_o ?_ ?_⟩ <;> omega
theorem gCor_r {a b r : Int} (hW : 0 ≤ g 121 ∧ g 121 < 20) (hr : 0 ≤ r ∧ r < 12) : gX (gCor g a b) r = gX g r ∧ gY (gCor g a b) r = gY g r ∧ gW (gCor g a b) r = gW g r ∧ gH (gCor g a b) r = gH g r ∧ gK (gCor g a b) r = gK g r := by
  unfold gX gY gW gH gK
  refine ⟨gCor_o ?_ ?_, gCor_o ?_ ?_, gCor_o ?_ ?_, gCor_o ?_ ?_, gCor_o ?_ ?_⟩ <;> omega
/-- rows that agree on rooms and numbers -/
def sameR (g g' : Int → Int) : Prop := g' 120 = g 120 ∧ g' 122 = g 122 ∧ g' 123 = g 123 ∧ ∀ r, 0 ≤ r → r < g 120 → gX g' r = gX g r ∧ gY g' r = gY g r ∧ gW g' r = gW g r ∧ gH g' r = gH g r
theorem WF_of {g' : Int → Int} (hw : WF g) (h : sameR g g') (hk : ∀ r, 0 ≤ r → r < g 120 → -1 ≤ gK g' r ∧ gK g' r ≤ 5) (hn : 0 ≤ g' 121 ∧ g' 121 ≤ 20) (hc : ∀ c, 0 ≤ c → c < g' 121 → (0 ≤ gA g' c ∧ gA g' c < gB g' c ∧ gB g' c < g 120) ∧ -1 ≤ gL g' c ∧ gL g' c ≤ 5) (hd : ∀ c e, 0 ≤ c → c < g' 121 → 0 ≤ e → e < g' 121 → gA g' c = gA g' e → gB g' c = gB g' e → c = e) : WF g' := by
  obtain ⟨h1, h2, h3, h4⟩ := h
  have hR := wf_R hw
  have hE := wf_E hw
  have hU := wf_U hw
  refine ⟨?_, ?_, ?_, ?_, hd⟩
  · unfold wfN
    rw [h1, h2, h3]
    omega
  · intro r r0 r1
    rw [h1] at r1
    have k := wf_r hw ⟨r0, r1⟩
    obtain ⟨o1, o2, o3, o4⟩ := h4 r r0 r1
    have l := hk r r0 r1
    unfold wfR at k ⊢
    rw [o1, o2, o3, o4]
    omega
  · intro r s r0 r1 s0 s1 ne
    rw [h1] at r1 s1
    obtain ⟨o1, o2, o3, o4⟩ := h4 r r0 r1
    obtain ⟨p1, p2, p3, p4⟩ := h4 s s0 s1
    have k := hw.2.2.1 r s r0 r1 s0 s1 ne
    unfold wfP at k ⊢
    rw [o1, o2, o3, o4, p1, p2, p3, p4]
    exact k
  · intro c c0 c1
    have k := hc c c0 c1
    unfold wfC
    rw [h1]
    exact k
theorem gCor_WF {a b : Int} (hw : WF g) (h1 : 0 ≤ a ∧ a < b ∧ b < g 120) (h2 : wayF g a b = -1) (hn : g 121 < 20) : WF (gCor g a b) := by
  have hR := wf_R hw
  have hW := wf_W hw
  have hW' : 0 ≤ g 121 ∧ g 121 < 20 := ⟨hW.1, hn⟩
  obtain ⟨n1, n2, n3, n4⟩ := gCor_n (g := g) (a := a) (b := b) hW'
  have nw : ∀ c, 0 ≤ c → c < g 121 → ¬ isW g a b c := by
    rcases fs_sp (p := isW g a b) hW.1 with k | k
    · exact k.2
    · unfold wayF at h2
      omega
  refine WF_of hw ⟨gCor_o (by omega) (by omega), gCor_o (by omega) (by omega), gCor_o (by omega) (by omega), fun r r0 r1 => ?_⟩ (fun r r0 r1 => ?_) (by omega) (fun c c0 c1 => ?_) (fun c e c0 c1 e0 e1 => ?_)
  · obtain ⟨o1, o2, o3, o4, o5⟩ := gCor_r (g := g) (a := a) (b := b) (r := r) hW' (by omega)
    exact ⟨o1, o2, o3, o4⟩
  · obtain ⟨o1, o2, o3, o4, o5⟩ := gCor_r (g := g) (a := a) (b := b) (r := r) hW' (by omega)
    rw [o5]
    exact wf_k hw ⟨r0, r1⟩
  · by_cases e : c = g 121
    · rw [e, n1, n2, n3]
      omega
    · obtain ⟨o1, o2, o3⟩ := gCor_c (g := g) (a := a) (b := b) (c := c) hW' (by omega)
      rw [o1, o2, o3]
      exact wf_c hw (by omega)
  · by_cases k : c = g 121
    · by_cases l : e = g 121
      · omega
      · obtain ⟨o1, o2, o3⟩ := gCor_c (g := g) (a := a) (b := b) (c := e) hW' (by omega)
        rw [k, n1, n2, o1, o2]
        intro z1 z2
        exact absurd (Or.inl ⟨z1.symm, z2.symm⟩) (nw e e0 (by omega))
    · obtain ⟨o1, o2, o3⟩ := gCor_c (g := g) (a := a) (b := b) (c := c) hW' (by omega)
      by_cases l : e = g 121
      · rw [l, n1, n2, o1, o2]
        intro z1 z2
        exact absurd (Or.inl ⟨z1, z2⟩) (nw c c0 (by omega))
      · obtain ⟨p1, p2, p3⟩ := gCor_c (g := g) (a := a) (b := b) (c := e) hW' (by omega)
        rw [o1, o2, p1, p2]
        exact hw.2.2.2.2 c e c0 (by omega) e0 (by omega)
theorem wayF_sy {a b : Int} : wayF g a b = wayF g b a := fs_cg (fun c _ _ => by unfold isW; omega)
theorem e_cor (hw : WF g) (a b : Int) : edt True 20 168 [zI a, zI b] g := by
  have hR := wf_R hw
  have hW := wf_W hw
  have ex : ∀ d M, dgr M 1 g → E (d + 8) 20 [zR 1, zI a, zI b] M = Q (d + 7) 20 5 [zR 1, zI a, zI b] [zI (bI (0 ≤ a ∧ a < g 120))] M := fun d M hd => by rw [en_20, q_20_0, x_hasRoom hd, Cb_I]
  have em : ∀ d M, M 139 = g → E (d + 8) 168 [zR 138, zI a, zI b] M = Q (d + 7) 168 5 [zR 138, zI a, zI b, zU] [zI (bI (0 ≤ a ∧ a < g 120))] M := fun d M hg => by rw [en_168, q_168_0, m_isRoom _ (by rw [hg]; exact hR), Cb_I, hg]
  by_cases ha : 0 ≤ a ∧ a < g 120
  · have ex1 : ∀ d M, dgr M 1 g → E (d + 8) 20 [zR 1, zI a, zI b] M = Q (d + 7) 20 13 [zR 1, zI a, zI b] [zI (bI (0 ≤ b ∧ b < g 120))] M := fun d M hd => by rw [ex d M hd, q_20_5, if_neg (bI_n0.2 ha), x_hasRoom hd, Cb_I]
    have em1 : ∀ d M, M 139 = g → E (d + 8) 168 [zR 138, zI a, zI b] M = Q (d + 7) 168 13 [zR 138, zI a, zI b, zU] [zI (bI (0 ≤ b ∧ b < g 120))] M := fun d M hg => by rw [em d M hg, q_168_5, if_neg (bI_n0.2 ha), m_isRoom _ (by rw [hg]; exact hR), Cb_I, hg]
    by_cases hb : 0 ≤ b ∧ b < g 120
    · by_cases hab : a = b
      · refine edt_no hw (-102) (fun d M hd => ?_) (fun d M hg => ?_)
        · rw [ex1 d M hd, q_20_13, if_pos (bI_n0.2 hb), if_neg (fun q => q hab)]
        · rw [em1 d M hg, q_168_13, if_pos (bI_n0.2 hb), if_neg (fun q => q hab)]
      · have ex2 : ∀ d M, dgr M 1 g → E (d + 8) 20 [zR 1, zI a, zI b] M = Q (d + 7) 20 33 [zR 1, zI a, zI b] [zI (wayF g a b)] M := fun d M hd => by rw [ex1 d M hd, q_20_13, if_pos (bI_n0.2 hb), if_pos hab, x_between hw hd, Cb_I]
        have em2 : ∀ d M, M 139 = g → E (d + 8) 168 [zR 138, zI a, zI b] M = Q (d + 7) 168 33 [zR 138, zI a, zI b, zU] [zI (wayF g a b)] M := fun d M hg => by rw [em1 d M hg, q_168_13, if_pos (bI_n0.2 hb), if_pos hab, m_wayBetween (by rw [hg]; exact hW), Cb_I, hg]
        have wr := wayF_rg hw (a := a) (b := b)
        by_cases hf : wayF g a b = -1
        · by_cases hn : g 121 = 20
          · refine edt_no hw (-103) (fun d M hd => ?_) (fun d M hg => ?_)
            · rw [ex2 d M hd, q_20_33, if_pos hf, h1W hd, if_neg (by omega)]
            · rw [em2 d M hg, q_168_33, if_pos (by omega), hg, if_neg (fun q => q hn)]
          · have hW' : 0 ≤ g 121 ∧ g 121 < 20 := by omega
            -- the lower and the higher room
            have main : ∀ lo hi : Int, (lo = if b < a then b else a) → (hi = if a < b then b else a) → (0 ≤ lo ∧ lo < hi ∧ hi < g 120) → wayF g lo hi = -1 → edt True 20 168 [zI a, zI b] g := by
              intro lo hi hlo hhi hlh hf2
              obtain ⟨n1, n2, n3, n4⟩ := gCor_n (g := g) (a := lo) (b := hi) hW'
              refine ⟨g 121, gCor g lo hi, gCor_WF hw hlh hf2 hW'.2, fun z => by omega, fun _ => by omega, fun d M hd => ?_, fun d M hg => ?_⟩
              · refine ⟨zwr (zwr (zwr (zwr M 7 (g 121) lo) 8 (g 121) hi) 9 (g 121) (-1)) 1 9 (g 121 + 1), ?_, ?_, ?_⟩
                · rw [ex2 d M hd, q_20_33, if_pos hf, ← hlo, ← hhi]
                  simp only [zwr_ne (show (1 : Nat) ≠ 7 by decide), zwr_ne (show (1 : Nat) ≠ 8 by decide), zwr_ne (show (1 : Nat) ≠ 9 by decide), zwr_at, h1W hd]
                  rw [if_pos (by omega), if_pos hW', if_pos hW', if_pos hW', zw_id (x := g 121 + 1) (by omega), zw_id (by omega), show g 121 + 1 - 1 = g 121 by omega]
                · intro b hb
                  rw [zwr_n (by omega), zwr_n (by omega), zwr_n (by omega), zwr_n (by omega)]
                · refine ⟨⟨?_, ?_, ?_, ?_⟩, fun r r0 r1 => ?_, fun c c0 c1 => ?_⟩
                  · rw [zwr_nj (by decide), zwr_ne (by decide), zwr_ne (by decide), zwr_ne (by decide), h1R hd, gCor_o (by omega) (by omega)]
                  · rw [zwr_at, n4]
                  · rw [zwr_nj (by decide), zwr_ne (by decide), zwr_ne (by decide), zwr_ne (by decide), h1E hd, gCor_o (by omega) (by omega)]
                  · rw [zwr_nj (by decide), zwr_ne (by decide), zwr_ne (by decide), zwr_ne (by decide), h1U hd, gCor_o (by omega) (by omega)]
                  · rw [gCor_o (by omega) (by omega)] at r1
                    obtain ⟨o1, o2, o3, o4, o5⟩ := gCor_r (g := g) (a := lo) (b := hi) (r := r) hW' (by omega)
                    have k := hd.2.1 r r0 r1
                    unfold dgR at k ⊢
                    rw [o1, o2, o3, o4, o5]
                    refine ⟨?_, ?_, ?_, ?_, ?_⟩ <;> rw [zwr_ne (by decide), zwr_ne (by decide), zwr_ne (by decide), zwr_ne (by decide)]
                    · exact k.1
                    · exact k.2.1
                    · exact k.2.2.1
                    · exact k.2.2.2.1
                    · exact k.2.2.2.2
                  · rw [n4] at c1
                    unfold dgC
                    by_cases e : c = g 121
                    · rw [e, n1, n2, n3]
                      refine ⟨?_, ?_, ?_⟩
                      · rw [zwr_ne (by decide), zwr_ne (by decide), zwr_ne (by decide)]
                        exact zwr_at
                      · rw [zwr_ne (by decide), zwr_ne (by decide)]
                        exact zwr_at
                      · rw [zwr_ne (by decide)]
                        exact zwr_at
                    · obtain ⟨o1, o2, o3⟩ := gCor_c (g := g) (a := lo) (b := hi) (c := c) hW' (by omega)
                      rw [o1, o2, o3, zwr_ne (by decide), zwr_ne (show (1 + 7 : Nat) ≠ 1 by decide), zwr_ne (show (1 + 8 : Nat) ≠ 1 by decide)]
                      simp only [zwr_nj e]
                      exact hd.2.2 c c0 (by omega)
              · have z0 : zw (60 + zw (3 * g 121)) = 60 + 3 * g 121 := by unfold zw; omega
                have z1 : zw (60 + 3 * g 121 + 1) = 60 + 3 * g 121 + 1 := zw_id (by omega)
                have z2 : zw (60 + 3 * g 121 + 2) = 60 + 3 * g 121 + 2 := zw_id (by omega)
                refine ⟨zwr (zwr (zwr (zwr M 139 (60 + 3 * g 121) lo) 139 (60 + 3 * g 121 + 1) hi) 139 (60 + 3 * g 121 + 2) (-1)) 139 121 (g 121 + 1), ?_, ?_, ?_⟩
                · have at82 : Q (d + 7) 168 82 [zR 138, zI a, zI b, zI (60 + 3 * g 121)] [zI lo, zI (60 + 3 * g 121), zR 139] M = Rt (some (zI (g 121))) (zwr (zwr (zwr (zwr M 139 (60 + 3 * g 121) lo) 139 (60 + 3 * g 121 + 1) hi) 139 (60 + 3 * g 121 + 2) (-1)) 139 121 (g 121 + 1)) := by
                    rw [q_168_82, if_pos (by omega)]
                    simp only [hg, z1, z2, zwr_at, zwr_nj (show (121 : Int) ≠ 60 + 3 * g 121 by omega), zwr_nj (show (121 : Int) ≠ 60 + 3 * g 121 + 1 by omega), zwr_nj (show (121 : Int) ≠ 60 + 3 * g 121 + 2 by omega)]
                    by_cases k : b ≤ a
                    · have e : hi = a := by rw [hhi, if_neg (by omega)]
                      rw [if_pos k, if_pos (by omega), if_pos (by omega), zw_id (x := g 121 + 1) (by omega), zw_id (by omega), show g 121 + 1 - 1 = g 121 by omega, e]
                    · have e : hi = b := by rw [hhi, if_pos (by omega)]
                      rw [if_neg k, if_pos (by omega), if_pos (by omega), zw_id (x := g 121 + 1) (by omega), zw_id (by omega), show g 121 + 1 - 1 = g 121 by omega, e]
                  rw [em2 d M hg, q_168_33, if_pos (by omega), hg, if_pos hn, z0]
                  by_cases k : b ≤ a
                  · have e : lo = b := by rw [hlo, if_pos (by omega)]
                    rw [if_pos k, ← e]
                    rw [e] at at82 ⊢
                    exact at82
                  · have e : lo = a := by rw [hlo, if_neg (by omega)]
                    rw [if_neg k]
                    rw [e] at at82 ⊢
                    exact at82
                · exact fr1_w (fr1_w (fr1_w (fr1_w fr1_r)))
                · rw [zwr_u, zwr_u, zwr_u, zwr_u, hg]
                  rfl
            by_cases k : a < b
            · exact main a b (by rw [if_neg (by omega)]) (by rw [if_pos k]) (by omega) hf
            · exact main b a (by rw [if_pos (by omega)]) (by rw [if_neg k]) (by omega) (by rw [wayF_sy]; exact hf)
        · refine edt_no hw (-106) (fun d M hd => ?_) (fun d M hg => ?_)
          · rw [ex2 d M hd, q_20_33, if_neg hf]
          · rw [em2 d M hg, q_168_33, if_neg (by omega)]
    · refine edt_no hw (-101) (fun d M hd => ?_) (fun d M hg => ?_)
      · rw [ex1 d M hd, q_20_13, if_neg (fun q => q (bI_0.2 hb))]
      · rw [em1 d M hg, q_168_13, if_neg (fun q => q (bI_0.2 hb))]
  · refine edt_no hw (-101) (fun d M hd => ?_) (fun d M hg => ?_)
    · rw [ex d M hd, q_20_5, if_pos (bI_0.2 ha)]
    · rw [em d M hg, q_168_5, if_pos (bI_0.2 ha)]
/-- a lock, a key -/
theorem up_lk {c k e v : Int} (hc : 0 ≤ c ∧ c < 20) (he : 0 ≤ e ∧ e < 20) : gA (up1 g (60 + 3 * c + 2) v) e = gA g e ∧ gB (up1 g (60 + 3 * c + 2) v) e = gB g e ∧ gL (up1 g (60 + 3 * c + 2) v) e = (if e = c then v else gL g e) := by
  unfold gA gB gL
  refine ⟨up1_n (by omega), up1_n (by omega), ?_⟩
  by_cases q : e = c
  · rw [q, if_pos rfl, up1_s]
  · rw [if_neg q, up1_n (by omega)]
theorem up_lr {c r v : Int} (hc : 0 ≤ c ∧ c < 20) (hr : 0 ≤ r ∧ r < 12) : gX (up1 g (60 + 3 * c + 2) v) r = gX g r ∧ gY (up1 g (60 + 3 * c + 2) v) r = gY g r ∧ gW (up1 g (60 + 3 * c + 2) v) r = gW g r ∧ gH (up1 g (60 + 3 * c + 2) v) r = gH g r ∧ gK (up1 g (60 + 3 * c + 2) v) r = gK g r := by
  unfold gX gY gW gH gK
  exact ⟨up1_n (by omega), up1_n (by omega), up1_n (by omega), up1_n (by omega), up1_n (by omega)⟩
theorem gLk_WF {c v : Int} (hw : WF g) (hc : 0 ≤ c ∧ c < g 121) (hv : -1 ≤ v ∧ v ≤ 5) : WF (up1 g (60 + 3 * c + 2) v) := by
  have hR := wf_R hw
  have hW := wf_W hw
  have e1 : up1 g (60 + 3 * c + 2) v 121 = g 121 := up1_n (by omega)
  refine WF_of hw ⟨up1_n (by omega), up1_n (by omega), up1_n (by omega), fun r r0 r1 => ?_⟩ (fun r r0 r1 => ?_) (by rw [e1]; exact hW) (fun e e0 e1' => ?_) (fun e f e0 e1' f0 f1 => ?_)
  · obtain ⟨o1, o2, o3, o4, o5⟩ := up_lr (g := g) (c := c) (r := r) (v := v) (by omega) (by omega)
    exact ⟨o1, o2, o3, o4⟩
  · obtain ⟨o1, o2, o3, o4, o5⟩ := up_lr (g := g) (c := c) (r := r) (v := v) (by omega) (by omega)
    rw [o5]
    exact wf_k hw ⟨r0, r1⟩
  · rw [e1] at e1'
    obtain ⟨o1, o2, o3⟩ := up_lk (g := g) (c := c) (k := 0) (e := e) (v := v) (by omega) (by omega)
    have k := wf_c hw ⟨e0, e1'⟩
    unfold wfC at k
    rw [o1, o2, o3]
    split <;> omega
  · rw [e1] at e1' f1
    obtain ⟨o1, o2, o3⟩ := up_lk (g := g) (c := c) (k := 0) (e := e) (v := v) (by omega) (by omega)
    obtain ⟨p1, p2, p3⟩ := up_lk (g := g) (c := c) (k := 0) (e := f) (v := v) (by omega) (by omega)
    rw [o1, o2, p1, p2]
    exact hw.2.2.2.2 e f e0 e1' f0 f1
theorem dgr_lk {M : ZM} {c v : Int} (hw : WF g) (hd : dgr M 1 g) (hc : 0 ≤ c ∧ c < g 121) : dgr (zwr M 9 c v) 1 (up1 g (60 + 3 * c + 2) v) := by
  have hR := wf_R hw
  have hW := wf_W hw
  refine ⟨⟨?_, ?_, ?_, ?_⟩, fun r r0 r1 => ?_, fun e e0 e1 => ?_⟩
  · rw [zwr_ne (by decide), h1R hd, up1_n (by omega)]
  · rw [zwr_ne (by decide), h1W hd, up1_n (by omega)]
  · rw [zwr_ne (by decide), h1E hd, up1_n (by omega)]
  · rw [zwr_ne (by decide), h1U hd, up1_n (by omega)]
  · rw [up1_n (by omega)] at r1
    obtain ⟨o1, o2, o3, o4, o5⟩ := up_lr (g := g) (c := c) (r := r) (v := v) (by omega) (by omega)
    unfold dgR
    rw [o1, o2, o3, o4, o5, zwr_ne (by decide), zwr_ne (by decide), zwr_ne (by decide), zwr_ne (by decide), zwr_ne (by decide)]
    exact hd.2.1 r r0 r1
  · rw [up1_n (by omega)] at e1
    obtain ⟨o1, o2, o3⟩ := up_lk (g := g) (c := c) (k := 0) (e := e) (v := v) (by omega) (by omega)
    have k := hd.2.2 e e0 e1
    unfold dgC at k ⊢
    rw [o1, o2, o3, zwr_ne (by decide), zwr_ne (by decide)]
    refine ⟨k.1, k.2.1, ?_⟩
    by_cases q : e = c
    · rw [if_pos q, q]
      exact zwr_at
    · rw [if_neg q, zwr_nj q]
      exact k.2.2
theorem e_lock (hw : WF g) (c v : Int) : edt False 22 170 [zI c, zI v] g := by
  have hR := wf_R hw
  have hW := wf_W hw
  have ex : ∀ d M, dgr M 1 g → E (d + 8) 22 [zR 1, zI c, zI v] M = Q (d + 7) 22 5 [zR 1, zI c, zI v, zU] [zI (bI (0 ≤ c ∧ c < g 121))] M := fun d M hd => by rw [en_22, q_22_0, x_hasCorridor hd, Cb_I]
  have em : ∀ d M, M 139 = g → E (d + 8) 170 [zR 138, zI c, zI v] M = Q (d + 7) 170 5 [zR 138, zI c, zI v, zU] [zI (bI (0 ≤ c ∧ c < g 121))] M := fun d M hg => by rw [en_170, q_170_0, m_isCorridor _ (by rw [hg]; exact hW), Cb_I, hg]
  by_cases hc : 0 ≤ c ∧ c < g 121
  · by_cases hv : -1 ≤ v ∧ v ≤ 5
    · have hl := wf_l hw hc
      refine ⟨if gL g c = -1 then -104 else gL g c, up1 g (60 + 3 * c + 2) v, gLk_WF hw hc hv, fun z => ?_, fun b => b.elim, fun d M hd => ?_, fun d M hg => ?_⟩
      · split
        · intro q; exact absurd rfl q
        · rename_i q
          rw [if_neg q] at z
          omega
      · refine ⟨zwr M 9 c v, ?_, frr_w frr_r (by omega) (by omega), dgr_lk hw hd hc⟩
        rw [ex d M hd, q_22_5, if_pos (bI_n0.2 hc), x_isColor, Cb_I, q_22_15, if_pos (bI_n0.2 hv), if_pos (by omega), if_pos (by omega), x_told, Cb_I, q_22_39, h1l hd hc]
      · refine ⟨zwr M 139 (60 + 3 * c + 2) v, ?_, fr1_w fr1_r, by rw [zwr_u, hg]⟩
        have z0 : zw (zw (60 + zw (3 * c)) + 2) = 60 + 3 * c + 2 := by unfold zw; omega
        rw [em d M hg, q_170_5, if_pos (bI_n0.2 hc), m_in, Cb_I, q_170_17, if_pos (bI_n0.2 hv), m_l (by omega), Cb_I, q_170_29, z0, if_pos (by omega), m_told, Cb_I, q_170_48, hg]
    · refine edt_no hw (-102) (fun d M hd => ?_) (fun d M hg => ?_)
      · rw [ex d M hd, q_22_5, if_pos (bI_n0.2 hc), x_isColor, Cb_I, q_22_15, if_neg (fun q => q (bI_0.2 hv))]
      · rw [em d M hg, q_170_5, if_pos (bI_n0.2 hc), m_in, Cb_I, q_170_17, if_neg (fun q => q (bI_0.2 hv))]
  · refine edt_no hw (-101) (fun d M hd => ?_) (fun d M hg => ?_)
    · rw [ex d M hd, q_22_5, if_neg (fun q => q (bI_0.2 hc))]
    · rw [em d M hg, q_170_5, if_neg (fun q => q (bI_0.2 hc))]
theorem up_kc {r e v : Int} (hr : 0 ≤ r ∧ r < 12) (he : 0 ≤ e ∧ e < 20) : gA (up1 g (5 * r + 4) v) e = gA g e ∧ gB (up1 g (5 * r + 4) v) e = gB g e ∧ gL (up1 g (5 * r + 4) v) e = gL g e := by
  unfold gA gB gL
  exact ⟨up1_n (by omega), up1_n (by omega), up1_n (by omega)⟩
theorem up_kr {r s v : Int} (hr : 0 ≤ r ∧ r < 12) (hs : 0 ≤ s ∧ s < 12) : gX (up1 g (5 * r + 4) v) s = gX g s ∧ gY (up1 g (5 * r + 4) v) s = gY g s ∧ gW (up1 g (5 * r + 4) v) s = gW g s ∧ gH (up1 g (5 * r + 4) v) s = gH g s ∧ gK (up1 g (5 * r + 4) v) s = (if s = r then v else gK g s) := by
  unfold gX gY gW gH gK
  refine ⟨up1_n (by omega), up1_n (by omega), up1_n (by omega), up1_n (by omega), ?_⟩
  by_cases q : s = r
  · rw [q, if_pos rfl, up1_s]
  · rw [if_neg q, up1_n (by omega)]
theorem gKy_WF {r v : Int} (hw : WF g) (hr : 0 ≤ r ∧ r < g 120) (hv : -1 ≤ v ∧ v ≤ 5) : WF (up1 g (5 * r + 4) v) := by
  have hR := wf_R hw
  have hW := wf_W hw
  have e1 : up1 g (5 * r + 4) v 121 = g 121 := up1_n (by omega)
  refine WF_of hw ⟨up1_n (by omega), up1_n (by omega), up1_n (by omega), fun s r0 r1 => ?_⟩ (fun s r0 r1 => ?_) (by rw [e1]; exact hW) (fun e e0 e1' => ?_) (fun e f e0 e1' f0 f1 => ?_)
  · obtain ⟨o1, o2, o3, o4, o5⟩ := up_kr (g := g) (r := r) (s := s) (v := v) (by omega) (by omega)
    exact ⟨o1, o2, o3, o4⟩
  · obtain ⟨o1, o2, o3, o4, o5⟩ := up_kr (g := g) (r := r) (s := s) (v := v) (by omega) (by omega)
    have k := wf_k hw ⟨r0, r1⟩
    rw [o5]
    split <;> omega
  · rw [e1] at e1'
    obtain ⟨o1, o2, o3⟩ := up_kc (g := g) (r := r) (e := e) (v := v) (by omega) (by omega)
    rw [o1, o2, o3]
    exact wf_c hw ⟨e0, e1'⟩
  · rw [e1] at e1' f1
    obtain ⟨o1, o2, o3⟩ := up_kc (g := g) (r := r) (e := e) (v := v) (by omega) (by omega)
    obtain ⟨p1, p2, p3⟩ := up_kc (g := g) (r := r) (e := f) (v := v) (by omega) (by omega)
    rw [o1, o2, p1, p2]
    exact hw.2.2.2.2 e f e0 e1' f0 f1
theorem dgr_ky {M : ZM} {r v : Int} (hw : WF g) (hd : dgr M 1 g) (hr : 0 ≤ r ∧ r < g 120) : dgr (zwr M 6 r v) 1 (up1 g (5 * r + 4) v) := by
  have hR := wf_R hw
  have hW := wf_W hw
  refine ⟨⟨?_, ?_, ?_, ?_⟩, fun s r0 r1 => ?_, fun e e0 e1 => ?_⟩
  · rw [zwr_ne (by decide), h1R hd, up1_n (by omega)]
  · rw [zwr_ne (by decide), h1W hd, up1_n (by omega)]
  · rw [zwr_ne (by decide), h1E hd, up1_n (by omega)]
  · rw [zwr_ne (by decide), h1U hd, up1_n (by omega)]
  · rw [up1_n (by omega)] at r1
    obtain ⟨o1, o2, o3, o4, o5⟩ := up_kr (g := g) (r := r) (s := s) (v := v) (by omega) (by omega)
    have k := hd.2.1 s r0 r1
    unfold dgR at k ⊢
    rw [o1, o2, o3, o4, o5, zwr_ne (by decide), zwr_ne (by decide), zwr_ne (by decide), zwr_ne (by decide)]
    refine ⟨k.1, k.2.1, k.2.2.1, k.2.2.2.1, ?_⟩
    by_cases q : s = r
    · rw [if_pos q, q]
      exact zwr_at
    · rw [if_neg q, zwr_nj q]
      exact k.2.2.2.2
  · rw [up1_n (by omega)] at e1
    obtain ⟨o1, o2, o3⟩ := up_kc (g := g) (r := r) (e := e) (v := v) (by omega) (by omega)
    unfold dgC
    rw [o1, o2, o3, zwr_ne (by decide), zwr_ne (by decide), zwr_ne (by decide)]
    exact hd.2.2 e e0 e1
theorem e_key (hw : WF g) (r v : Int) : edt False 23 171 [zI r, zI v] g := by
  have hR := wf_R hw
  have hW := wf_W hw
  have ex : ∀ d M, dgr M 1 g → E (d + 8) 23 [zR 1, zI r, zI v] M = Q (d + 7) 23 5 [zR 1, zI r, zI v, zU] [zI (bI (0 ≤ r ∧ r < g 120))] M := fun d M hd => by rw [en_23, q_23_0, x_hasRoom hd, Cb_I]
  have em : ∀ d M, M 139 = g → E (d + 8) 171 [zR 138, zI r, zI v] M = Q (d + 7) 171 5 [zR 138, zI r, zI v, zU] [zI (bI (0 ≤ r ∧ r < g 120))] M := fun d M hg => by rw [en_171, q_171_0, m_isRoom _ (by rw [hg]; exact hR), Cb_I, hg]
  by_cases hr : 0 ≤ r ∧ r < g 120
  · by_cases hv : -1 ≤ v ∧ v ≤ 5
    · have hk := wf_k hw hr
      refine ⟨if gK g r = -1 then -104 else gK g r, up1 g (5 * r + 4) v, gKy_WF hw hr hv, fun z => ?_, fun b => b.elim, fun d M hd => ?_, fun d M hg => ?_⟩
      · split
        · intro q; exact absurd rfl q
        · rename_i q
          rw [if_neg q] at z
          omega
      · refine ⟨zwr M 6 r v, ?_, frr_w frr_r (by omega) (by omega), dgr_ky hw hd hr⟩
        rw [ex d M hd, q_23_5, if_pos (bI_n0.2 hr), x_isColor, Cb_I, q_23_15, if_pos (bI_n0.2 hv), if_pos (by omega), if_pos (by omega), x_told, Cb_I, q_23_39, h1k hd hr]
      · refine ⟨zwr M 139 (5 * r + 4) v, ?_, fr1_w fr1_r, by rw [zwr_u, hg]⟩
        have z0 : zw (zw (0 + zw (5 * r)) + 4) = 5 * r + 4 := by unfold zw; omega
        rw [em d M hg, q_171_5, if_pos (bI_n0.2 hr), m_in, Cb_I, q_171_17, if_pos (bI_n0.2 hv), m_k (by omega), Cb_I, q_171_29, z0, if_pos (by omega), m_told, Cb_I, q_171_47, hg]
    · refine edt_no hw (-102) (fun d M hd => ?_) (fun d M hg => ?_)
      · rw [ex d M hd, q_23_5, if_pos (bI_n0.2 hr), x_isColor, Cb_I, q_23_15, if_neg (fun q => q (bI_0.2 hv))]
      · rw [em d M hg, q_171_5, if_pos (bI_n0.2 hr), m_in, Cb_I, q_171_17, if_neg (fun q => q (bI_0.2 hv))]
  · refine edt_no hw (-101) (fun d M hd => ?_) (fun d M hg => ?_)
    · rw [ex d M hd, q_23_5, if_neg (fun q => q (bI_0.2 hr))]
    · rw [em d M hg, q_171_5, if_neg (fun q => q (bI_0.2 hr))]
theorem up_hi {i v j : Int} (hi : 120 ≤ i) (hj : j < 120) : up1 g i v j = g j := up1_n (by omega)
theorem hi_WF {i v : Int} (hw : WF g) (hi : i = 122 ∧ (0 ≤ v ∧ v < g 120) ∨ i = 123 ∧ 0 ≤ v ∧ v ≤ 2) : WF (up1 g i v) := by
  have hR := wf_R hw
  have hW := wf_W hw
  have hE := wf_E hw
  have hU := wf_U hw
  have e0 : up1 g i v 120 = g 120 := up1_n (by omega)
  have e1 : up1 g i v 121 = g 121 := up1_n (by omega)
  refine ⟨?_, fun r r0 r1 => ?_, fun r s r0 r1 s0 s1 ne => ?_, fun c c0 c1 => ?_, fun c e c0 c1 f0 f1 => ?_⟩
  · unfold wfN
    rw [e0, e1]
    rcases hi with ⟨rfl, h⟩ | ⟨rfl, h⟩
    · rw [up1_s, up1_n (by omega)]
      omega
    · rw [up1_s, up1_n (by omega)]
      omega
  · rw [e0] at r1
    have k := wf_r hw ⟨r0, r1⟩
    unfold wfR gX gY gW gH gK at k ⊢
    rw [up_hi (by omega) (by omega), up_hi (by omega) (by omega), up_hi (by omega) (by omega), up_hi (by omega) (by omega), up_hi (by omega) (by omega)]
    exact k
  · rw [e0] at r1 s1
    have k := hw.2.2.1 r s r0 r1 s0 s1 ne
    unfold wfP gX gY gW gH at k ⊢
    rw [up_hi (by omega) (by omega), up_hi (by omega) (by omega), up_hi (by omega) (by omega), up_hi (by omega) (by omega), up_hi (by omega) (by omega), up_hi (by omega) (by omega), up_hi (by omega) (by omega), up_hi (by omega) (by omega)]
    exact k
  · rw [e1] at c1
    have k := wf_c hw ⟨c0, c1⟩
    unfold wfC gA gB gL at k ⊢
    rw [e0, up_hi (by omega) (by omega), up_hi (by omega) (by omega), up_hi (by omega) (by omega)]
    exact k
  · rw [e1] at c1 f1
    have k := hw.2.2.2.2 c e c0 c1 f0 f1
    unfold gA gB at k ⊢
    rw [up_hi (by omega) (by omega), up_hi (by omega) (by omega), up_hi (by omega) (by omega), up_hi (by omega) (by omega)]
    exact k
theorem dgr_hi {M : ZM} {i v : Int} {k : Int} (hw : WF g) (hd : dgr M 1 g) (hi : i = 122 ∧ k = 10 ∨ i = 123 ∧ k = 11) : dgr (zwr M 1 k v) 1 (up1 g i v) := by
  have hR := wf_R hw
  have hW := wf_W hw
  refine ⟨?_, fun r r0 r1 => ?_, fun c c0 c1 => ?_⟩
  · rcases hi with ⟨rfl, rfl⟩ | ⟨rfl, rfl⟩
    · exact ⟨by rw [zwr_nj (by decide), h1R hd, up1_n (by omega)], by rw [zwr_nj (by decide), h1W hd, up1_n (by omega)], by rw [zwr_at, up1_s], by rw [zwr_nj (by decide), h1U hd, up1_n (by omega)]⟩
    · exact ⟨by rw [zwr_nj (by decide), h1R hd, up1_n (by omega)], by rw [zwr_nj (by decide), h1W hd, up1_n (by omega)], by rw [zwr_nj (by decide), h1E hd, up1_n (by omega)], by rw [zwr_at, up1_s]⟩
  · rw [up1_n (by omega)] at r1
    have k := hd.2.1 r r0 r1
    unfold dgR gX gY gW gH gK at k ⊢
    rw [zwr_ne (by decide), zwr_ne (by decide), zwr_ne (by decide), zwr_ne (by decide), zwr_ne (by decide), up_hi (by omega) (by omega), up_hi (by omega) (by omega), up_hi (by omega) (by omega), up_hi (by omega) (by omega), up_hi (by omega) (by omega)]
    exact k
  · rw [up1_n (by omega)] at c1
    have k := hd.2.2 c c0 c1
    unfold dgC gA gB gL at k ⊢
    rw [zwr_ne (by decide), zwr_ne (by decide), zwr_ne (by decide), up_hi (by omega) (by omega), up_hi (by omega) (by omega), up_hi (by omega) (by omega)]
    exact k
theorem e_ent (hw : WF g) (r : Int) : edt True 24 172 [zI r] g := by
  have hR := wf_R hw
  have hE := wf_E hw
  by_cases hr : 0 ≤ r ∧ r < g 120
  · refine ⟨g 122, up1 g 122 r, hi_WF hw (Or.inl ⟨rfl, hr⟩), fun z => by omega, fun _ => by omega, fun d M hd => ?_, fun d M hg => ?_⟩
    · refine ⟨zwr M 1 10 r, ?_, frr_w frr_r (by omega) (by omega), dgr_hi hw hd (Or.inl ⟨rfl, rfl⟩)⟩
      rw [en_24, q_24_0, x_hasRoom hd, Cb_I, q_24_5, if_pos (bI_n0.2 hr), h1E hd]
    · refine ⟨zwr M 139 122 r, ?_, fr1_w fr1_r, by rw [zwr_u, hg]⟩
      rw [en_172, q_172_0, m_isRoom _ (by rw [hg]; exact hR), Cb_I, q_172_5, hg, if_pos (bI_n0.2 hr)]
  · refine edt_no hw (-101) (fun d M hd => ?_) (fun d M hg => ?_)
    · rw [en_24, q_24_0, x_hasRoom hd, Cb_I, q_24_5, if_neg (fun q => q (bI_0.2 hr))]
    · rw [en_172, q_172_0, m_isRoom _ (by rw [hg]; exact hR), Cb_I, q_172_5, hg, if_neg (fun q => q (bI_0.2 hr))]
end
