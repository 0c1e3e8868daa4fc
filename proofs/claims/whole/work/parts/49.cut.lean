/-! what is left behind a change, in general; a corridor is taken away -/
section
variable {d : Nat} {M : ZM}
def keeps (M Mf : ZM) : Prop := Mf zSC = M zSC ∧ Mf 0 = M 0 ∧ (∀ b, 10 ≤ b → b ≤ 18 → Mf b = M b) ∧ (Mf 84 = M 84 ∧ Mf 85 = M 85 ∧ Mf 148 = M 148) ∧ Mf 141 = M 141 ∧ Mf 138 4 = M 138 4 ∧ Mf 138 17 = M 138 17 ∧ Mf 138 18 = M 138 18
theorem RL_1 {S : Int → Int} {Mf : ZM} (h : RL S M) (k : keeps M Mf) (w : WF (Mf 139)) (dd : dgr Mf 1 (Mf 139)) (x : hx1 M Mf (M 139)) (m : hm1 M Mf (M 139)) : RL S Mf := by
  obtain ⟨h1, h2, h3, h4, h5, h6⟩ := h
  obtain ⟨k1, k2, k3, ⟨k4, k5, k6⟩, k7, k8, k9, k10⟩ := k
  exact ⟨k1.trans h1, w, dd, HI_1 h4 x m, SV_cg h5 k2 k3 k8 k7, TX_cg h6 k4 k5 k9 k6 k10⟩
theorem RL_0 {S : Int → Int} {Mf : ZM} (h : RL S M) (k : keeps M Mf) (e : Mf 139 = M 139) (dd : dgr Mf 1 (M 139)) (x : hx0 M Mf) (m : hm0 M Mf) : RL S Mf := by
  obtain ⟨h1, h2, h3, h4, h5, h6⟩ := h
  obtain ⟨k1, k2, k3, ⟨k4, k5, k6⟩, k7, k8, k9, k10⟩ := k
  exact ⟨k1.trans h1, by rw [e]; exact h2, by rw [e]; exact dd, HI_0 h4 x m, SV_cg h5 k2 k3 k8 k7, TX_cg h6 k4 k5 k9 k6 k10⟩
/-- the cells of the class that a change may touch beside the history: the dungeon and what is scratch -/
def fxs (M M' : ZM) : Prop := ∀ b, b < 1 ∨ (9 < b ∧ b < 109) ∨ 137 < b → M' b = M b
theorem fxs_r : fxs M M := fun _ _ => rfl
theorem fxs_t {M' M'' : ZM} (h : fxs M M') (k : fxs M' M'') : fxs M M'' := fun b hb => (k b hb).trans (h b hb)
theorem fxs_9 {M' : ZM} (h : frr 1 9 M M') : fxs M M' := fun b hb => h b (by omega)
theorem fxs_q {M' : ZM} (h : frr 109 137 M M') : fxs M M' := fun b hb => h b (by omega)
/-- the cells of the reference that a change may touch beside the history: the row and what is scratch -/
def fms (M M' : ZM) : Prop := (∀ b, b < 138 ∨ 152 < b ∨ b = 140 ∨ b = 141 ∨ b = 148 → M' b = M b) ∧ ∀ f, prs f → M' 138 f = M 138 f
theorem fms_r : fms M M := ⟨fun _ _ => rfl, fun _ _ => rfl⟩
theorem fms_t {M' M'' : ZM} (h : fms M M') (k : fms M' M'') : fms M M'' := ⟨fun b hb => (k.1 b hb).trans (h.1 b hb), fun f hf => (k.2 f hf).trans (h.2 f hf)⟩
theorem fms_m {M' : ZM} (h : fm M M') : fms M M' := ⟨fun b hb => h.1 b (by omega), h.2⟩
theorem fms_1 {M' : ZM} {r : Nat} (h : fr1 r M M') (hr : 139 ≤ r ∧ r ≤ 152 ∧ r ≠ 140 ∧ r ≠ 141 ∧ r ≠ 148) : fms M M' := ⟨fun b hb => h b (by omega), fun f _ => by rw [h 138 (by omega)]⟩
/-- a whole change: prepared and committed by the class, remembered and told by the reference -/
theorem RL_chg {S : Int → Int} {Ma Mb Md Mf : ZM} (h : RL S M) (fa : frr (slo (M 19 1)) (slo (M 19 1) + 8) M Ma) (da : dgr Ma (slo (M 19 1)) (M 139)) (fb : fxs Ma Mb) (fd : fms (cmx Mb) Md) (ff : fh Md Mf) (hf : hm1 Md Mf (M 139)) (w : WF (Md 139)) (dd : dgr Mb 1 (Md 139)) : RL S Mf := by
  have h' := h
  obtain ⟨h1, h2, h3, h4, h5, h6⟩ := h
  have z := zSC_b
  have sl := slo_rg (M 19 1)
  have b19 : Mb 19 = M 19 := (fb 19 (by omega)).trans (fa 19 (by omega))
  have c : ∀ b, (b < 138 ∨ 152 < b ∨ b = 141 ∨ b = 148) → Mf b = cmx Mb b := fun b hb => (ff.1 b (by omega) (by omega)).trans (fd.1 b (by omega))
  have cM : ∀ b, (b = 0 ∨ (10 ≤ b ∧ b < 109) ∨ 152 < b ∨ b = 141 ∨ b = 148) → b ≠ 19 → (b < slo (M 19 1) ∨ slo (M 19 1) + 8 < b) → Mf b = M b := fun b hb q r => ((((c b (by omega)).trans (cmx_n q)).trans (fb b (by omega)))).trans (fa b r)
  have p : ∀ f, prs f → f ≠ 2 → Mf 138 f = M 138 f := fun f hf q => ((ff.2 f q).trans (fd.2 f hf)).trans (by rw [cmx_n (by decide), fb 138 (by omega), fa 138 (by omega)])
  have d2 : Md 138 2 = M 138 2 := (fd.2 2 (by unfold prs; omega)).trans (by rw [cmx_n (by decide), fb 138 (by omega), fa 138 (by omega)])
  have d40 : Md 140 = M 140 := (fd.1 140 (by omega)).trans (by rw [cmx_n (by decide), fb 140 (by omega), fa 140 (by omega)])
  have f39 : Mf 139 = Md 139 := ff.1 139 (by omega) (by omega)
  have n1 : cmx Mb 19 1 = (M 19 1 + 1) % 7 := by
    unfold cmx
    rw [zwr_nj (by decide), zwr_at, b19]
  have n2 : cmx Mb 19 2 = (if 6 < M 19 2 + 1 then 6 else M 19 2 + 1) := by
    unfold cmx
    rw [zwr_at, b19]
  refine RL_1 h' ⟨cM zSC (by omega) (by omega) (by omega), cM 0 (by omega) (by omega) (by omega), fun b b0 b1 => cM b (by omega) (by omega) (by omega), ⟨cM 84 (by omega) (by omega) (by omega), cM 85 (by omega) (by omega) (by omega), cM 148 (by omega) (by omega) (by omega)⟩, cM 141 (by omega) (by omega) (by omega), p 4 (by unfold prs; omega) (by decide), p 17 (by unfold prs; omega) (by decide), p 18 (by unfold prs; omega) (by decide)⟩ (by rw [f39]; exact w) (by rw [f39]; exact dgr_cg (fun b b0 b1 => (c b (by omega)).trans (cmx_n (by omega))) dd) ⟨by rw [c 19 (by omega), n1], by rw [c 19 (by omega), n2], fun b q r => ?_, h2, ?_⟩ ?_
  · by_cases e : b = 19
    · omega
    · exact cM b (by omega) e r
  · exact dgr_cg (fun b b0 b1 => ((c b (by omega)).trans (cmx_n (by omega))).trans (fb b (by omega))) da
  · obtain ⟨m1, m2⟩ := hf
    rw [d2] at m1
    refine ⟨m1, fun i i0 i1 => ?_⟩
    obtain ⟨q, r⟩ := m2 i i0 i1
    rw [d2, d40] at q
    exact ⟨q, r⟩
/-- a call that changes nothing but prepared the class's history -/
theorem RL_nop {S : Int → Int} {Ma Mb Md : ZM} (h : RL S M) (fa : frr (slo (M 19 1)) (slo (M 19 1) + 8) M Ma) (fb : frr 109 137 Ma Mb) (fd : fm Mb Md) : RL S Md := by
  have h' := h
  obtain ⟨h1, h2, h3, h4, h5, h6⟩ := h
  have z := zSC_b
  have sl := slo_rg (M 19 1)
  have c : ∀ b, (b < 109 ∨ 152 < b ∨ b = 139 ∨ b = 140 ∨ b = 141 ∨ b = 148) → (b < slo (M 19 1) ∨ slo (M 19 1) + 8 < b) → Md b = M b := fun b hb q => ((fd.1 b (by omega)).trans (fb b (by omega))).trans (fa b q)
  have p : ∀ f, prs f → Md 138 f = M 138 f := fun f hf => (fd.2 f hf).trans (by rw [fb 138 (by omega), fa 138 (by omega)])
  exact RL_0 h' ⟨c zSC (by omega) (by omega), c 0 (by omega) (by omega), fun b b0 b1 => c b (by omega) (by omega), ⟨c 84 (by omega) (by omega), c 85 (by omega) (by omega), c 148 (by omega) (by omega)⟩, c 141 (by omega) (by omega), p 4 (by unfold prs; omega), p 17 (by unfold prs; omega), p 18 (by unfold prs; omega)⟩ (c 139 (by omega) (by omega)) (dgr_cg (fun b b0 b1 => c b (by omega) (by omega)) h3) ⟨c 19 (by omega) (by omega), fun b q r => c b (by omega) r⟩ ⟨p 2 (by unfold prs; omega), c 140 (by omega) (by omega)⟩
def gCut (g : Int → Int) (c : Int) : Int → Int := fun k => if k = 121 then g 121 - 1 else if 60 + 3 * c ≤ k ∧ k < 60 + 3 * (g 121 - 1) then g (k + 3) else g k
variable {g : Int → Int}
theorem gCut_lo {c e : Int} (hc : 0 ≤ c) (he : 0 ≤ e ∧ e < c) (hn : g 121 ≤ 20) (hcn : c < g 121) : gA (gCut g c) e = gA g e ∧ gB (gCut g c) e = gB g e ∧ gL (gCut g c) e = gL g e := by
  unfold gA gB gL gCut
  refine ⟨?_, ?_, ?_⟩ <;> repeat (first | rw [if_pos (by omega)] | rw [if_neg (by omega)])
theorem gCut_hi {c e : Int} (hc : 0 ≤ c ∧ c ≤ e) (he : e < g 121 - 1) (hn : g 121 ≤ 20) : gA (gCut g c) e = gA g (e + 1) ∧ gB (gCut g c) e = gB g (e + 1) ∧ gL (gCut g c) e = gL g (e + 1) := by
  unfold gA gB gL gCut
  refine ⟨?_, ?_, ?_⟩
  · rw [if_neg (by omega), if_pos (by omega), show 60 + 3 * e + 0 + 3 = 60 + 3 * (e + 1) + 0 by omega]
  · rw [if_neg (by omega), if_pos (by omega), show 60 + 3 * e + 1 + 3 = 60 + 3 * (e + 1) + 1 by omega]
  · rw [if_neg (by omega), if_pos (by omega), show 60 + 3 * e + 2 + 3 = 60 + 3 * (e + 1) + 2 by omega]
theorem gCut_o {c i : Int} (hi : i ≠ 121) (hc : 0 ≤ c ∧ c < g 121) (hn : g 121 ≤ 20) (h : i < 60 ∨ 120 ≤ i) : gCut g c i = g i := by
  unfold gCut
  rw [if_neg hi, if_neg (by omega)]
theorem gCut_n {c : Int} : gCut g c 121 = g 121 - 1 := if_pos rfl
theorem m_cuts {c : Int} (hn : g 121 ≤ 20) (hc : 0 ≤ c ∧ c < g 121) (hg : M 139 = g) : ∃ M', E (d + 1) 173 [zR 138, zI c] M = Rt none M' ∧ fr1 139 M M' ∧ M' 139 = gCut g c := by
  have z0 : zw (60 + zw (3 * c)) = 60 + 3 * c := by unfold zw; omega
  have z1 : zw (60 + zw (3 * (g 121 - 1))) = 60 + 3 * (g 121 - 1) := by unfold zw; omega
  rw [en_173, q_173_0, z0, hg, zw_id (x := g 121 - 1) (by omega)]
  refine lpi (fun i (M1 : ZM) => Q d 173 18 [zR 138, zI c, zI (60 + 3 * c + i)] [] M1) (fun o => ∃ M', o = Rt none M' ∧ fr1 139 M M' ∧ M' 139 = gCut g c) (3 * (g 121 - 1 - c)) (fun i M1 => fr1 139 M M1 ∧ M1 139 121 = g 121 - 1 ∧ (∀ k, 60 + 3 * c ≤ k → k < 60 + 3 * c + i → M1 139 k = g (k + 3)) ∧ ∀ k, k ≠ 121 → (k < 60 + 3 * c ∨ 60 + 3 * c + i ≤ k) → M1 139 k = g k) ?_ ?_ 0 (zwr M 139 121 (g 121 - 1)) (by omega) ⟨fr1_w fr1_r, zwr_at, fun k k0 k1 => absurd k1 (by omega), fun k k0 k1 => by rw [zwr_nj k0, hg]⟩ |> fun z => ?_
  · rw [Int.add_zero] at z
    exact z
  · rintro i M1 i0 i1 ⟨f1, a1, b1, c1⟩
    refine Or.inr ⟨zwr M1 139 (60 + 3 * c + i) (g (60 + 3 * c + i + 3)), ?_, fr1_w f1, by rw [zwr_nj (by omega)]; exact a1, fun k k0 k1 => ?_, fun k k0 k1 => ?_⟩
    · rw [q_173_18, a1, z1, if_neg (by omega), zw_id (x := 60 + 3 * c + i + 3) (by omega), if_pos (by omega), if_pos (by omega), zw_id (by omega), c1 _ (by omega) (by omega), Int.add_assoc (60 + 3 * c) i 1]
    · by_cases e : k = 60 + 3 * c + i
      · rw [e, zwr_at]
      · rw [zwr_nj e]
        exact b1 k k0 (by omega)
    · rw [zwr_nj (by omega)]
      exact c1 k k0 (by omega)
  · rintro M1 ⟨f1, a1, b1, c1⟩
    refine ⟨M1, by rw [q_173_18, a1, z1, if_pos (by omega)], f1, funext fun k => ?_⟩
    unfold gCut
    by_cases e : k = 121
    · rw [if_pos e, e, a1]
    · rw [if_neg e]
      by_cases l : 60 + 3 * c ≤ k ∧ k < 60 + 3 * (g 121 - 1)
      · rw [if_pos l]
        exact b1 k l.1 (by omega)
      · rw [if_neg l]
        exact c1 k e (by omega)
theorem gCut_WF {c : Int} (hw : WF g) (hc : 0 ≤ c ∧ c < g 121) : WF (gCut g c) := by
  have hR := wf_R hw
  have hW := wf_W hw
  have sr : ∀ r, 0 ≤ r → r < 12 → gX (gCut g c) r = gX g r ∧ gY (gCut g c) r = gY g r ∧ gW (gCut g c) r = gW g r ∧ gH (gCut g c) r = gH g r ∧ gK (gCut g c) r = gK g r := fun r r0 r1 => by
    unfold gX gY gW gH gK
    exact ⟨gCut_o (by omega) hc hW.2 (by omega), gCut_o (by omega) hc hW.2 (by omega), gCut_o (by omega) hc hW.2 (by omega), gCut_o (by omega) hc hW.2 (by omega), gCut_o (by omega) hc hW.2 (by omega)⟩
  have at' : ∀ e, 0 ≤ e → e < g 121 - 1 → ∃ f, (0 ≤ f ∧ f < g 121) ∧ (f = if e < c then e else e + 1) ∧ gA (gCut g c) e = gA g f ∧ gB (gCut g c) e = gB g f ∧ gL (gCut g c) e = gL g f := by
    intro e e0 e1
    by_cases k : e < c
    · exact ⟨e, by omega, by rw [if_pos k], gCut_lo hc.1 ⟨e0, k⟩ hW.2 hc.2⟩
    · exact ⟨e + 1, by omega, by rw [if_neg k], gCut_hi ⟨hc.1, by omega⟩ e1 hW.2⟩
  refine WF_of hw ⟨gCut_o (by omega) hc hW.2 (by omega), gCut_o (by omega) hc hW.2 (by omega), gCut_o (by omega) hc hW.2 (by omega), fun r r0 r1 => ?_⟩ (fun r r0 r1 => ?_) (by rw [gCut_n]; omega) (fun e e0 e1 => ?_) (fun e f e0 e1 f0 f1 => ?_)
  · obtain ⟨o1, o2, o3, o4, o5⟩ := sr r r0 (by omega)
    exact ⟨o1, o2, o3, o4⟩
  · rw [(sr r r0 (by omega)).2.2.2.2]
    exact wf_k hw ⟨r0, r1⟩
  · rw [gCut_n] at e1
    obtain ⟨k, k1, k2, k3, k4, k5⟩ := at' e e0 e1
    rw [k3, k4, k5]
    exact wf_c hw k1
  · rw [gCut_n] at e1 f1
    obtain ⟨k, k1, k2, k3, k4, k5⟩ := at' e e0 e1
    obtain ⟨l, l1, l2, l3, l4, l5⟩ := at' f f0 f1
    rw [k3, k4, l3, l4]
    intro p q
    have := hw.2.2.2.2 k l k1.1 k1.2 l1.1 l1.2 p q
    rw [k2, l2] at this
    split at this <;> split at this <;> omega
theorem x_dropCorridor {c : Int} (hw : WF g) (hd : dgr M 1 g) (hc : 0 ≤ c ∧ c < g 121) : ∃ M', E (d + 2) 28 [zR 1, zI c] M = Rt (some (zI (g 121 - 1))) M' ∧ frr 1 9 M M' ∧ dgr M' 1 (gCut g c) := by
  have hR := wf_R hw
  have hW := wf_W hw
  rw [en_28, q_28_0, x_hasCorridor hd, Cb_I, q_28_5, if_pos (bI_n0.2 hc), zw_id (x := c + 1) (by omega)]
  refine lpi (fun i (M1 : ZM) => Q (d + 1) 28 15 [zR 1, zI c, zI (c + 1 + i)] [] M1) (fun o => ∃ M', o = Rt (some (zI (g 121 - 1))) M' ∧ frr 1 9 M M' ∧ dgr M' 1 (gCut g c)) (g 121 - 1 - c) (fun i M1 => (∀ b, b < 7 ∨ 9 < b → M1 b = M b) ∧ (∀ e, c ≤ e → e < c + i → M1 7 e = gA g (e + 1) ∧ M1 8 e = gB g (e + 1) ∧ M1 9 e = gL g (e + 1)) ∧ ∀ e, 0 ≤ e → e < g 121 → (e < c ∨ c + i ≤ e) → M1 7 e = gA g e ∧ M1 8 e = gB g e ∧ M1 9 e = gL g e) ?_ ?_ 0 M (by omega) ⟨fun _ _ => rfl, fun e e0 e1 => absurd e1 (by omega), fun e e0 e1 _ => hd.2.2 e e0 e1⟩ |> fun z => ?_
  · rw [Int.add_zero] at z
    exact z
  · rintro i M1 i0 i1 ⟨f1, a1, b1⟩
    obtain ⟨M2, e2, f2, p1, p2, p3⟩ := x_takeCorridor (d := d) (M := M1) (D := 1) (F := 1) zDn_1 zDn_1 (i := c + i) (j := c + 1 + i) (by omega) (by omega)
    have src := b1 (c + 1 + i) (by omega) (by omega) (by omega)
    refine Or.inr ⟨M2, ?_, fun b hb => (f2 b (by omega)).trans (f1 b hb), fun e e0 e1 => ?_, fun e e0 e1 e2' => ?_⟩
    · rw [q_28_15, f1 1 (by omega), h1W hd, if_neg (by omega), zw_id (x := c + 1 + i - 1) (by omega), show c + 1 + i - 1 = c + i by omega, e2, Cb_V, q_28_32, zw_id (by omega), Int.add_assoc (c + 1) i 1]
    · rw [p1, p2, p3]
      by_cases q : e = c + i
      · rw [q, up1_s, up1_s, up1_s, show c + i + 1 = c + 1 + i by omega]
        exact src
      · rw [up1_n q, up1_n q, up1_n q]
        exact a1 e e0 (by omega)
    · rw [p1, p2, p3, up1_n (by omega), up1_n (by omega), up1_n (by omega)]
      exact b1 e e0 e1 (by omega)
  · rintro M1 ⟨f1, a1, b1⟩
    have sr : ∀ r, 0 ≤ r → r < 12 → gX (gCut g c) r = gX g r ∧ gY (gCut g c) r = gY g r ∧ gW (gCut g c) r = gW g r ∧ gH (gCut g c) r = gH g r ∧ gK (gCut g c) r = gK g r := fun r r0 r1 => by
      unfold gX gY gW gH gK
      exact ⟨gCut_o (by omega) hc hW.2 (by omega), gCut_o (by omega) hc hW.2 (by omega), gCut_o (by omega) hc hW.2 (by omega), gCut_o (by omega) hc hW.2 (by omega), gCut_o (by omega) hc hW.2 (by omega)⟩
    refine ⟨zwr M1 1 9 (g 121 - 1), ?_, fun b hb => by rw [zwr_n (by omega)]; exact f1 b (by omega), ⟨?_, ?_, ?_, ?_⟩, fun r r0 r1 => ?_, fun e e0 e1 => ?_⟩
    · rw [q_28_15, f1 1 (by omega), h1W hd, if_pos (by omega), zw_id (x := g 121 - 1) (by omega), zwr_at]
    · rw [zwr_nj (by decide), f1 1 (by omega), h1R hd, gCut_o (by omega) hc hW.2 (by omega)]
    · rw [zwr_at, gCut_n]
    · rw [zwr_nj (by decide), f1 1 (by omega), h1E hd, gCut_o (by omega) hc hW.2 (by omega)]
    · rw [zwr_nj (by decide), f1 1 (by omega), h1U hd, gCut_o (by omega) hc hW.2 (by omega)]
    · rw [gCut_o (by omega) hc hW.2 (by omega)] at r1
      obtain ⟨o1, o2, o3, o4, o5⟩ := sr r r0 (by omega)
      unfold dgR
      rw [o1, o2, o3, o4, o5, zwr_ne (by decide), zwr_ne (by decide), zwr_ne (by decide), zwr_ne (by decide), zwr_ne (by decide), f1 (1 + 1) (by omega), f1 (1 + 2) (by omega), f1 (1 + 3) (by omega), f1 (1 + 4) (by omega), f1 (1 + 5) (by omega)]
      exact hd.2.1 r r0 r1
    · rw [gCut_n] at e1
      unfold dgC
      rw [zwr_ne (by decide), zwr_ne (by decide), zwr_ne (by decide)]
      by_cases k : e < c
      · obtain ⟨o1, o2, o3⟩ := gCut_lo hc.1 ⟨e0, k⟩ hW.2 hc.2
        rw [o1, o2, o3]
        exact b1 e e0 (by omega) (by omega)
      · obtain ⟨o1, o2, o3⟩ := gCut_hi (g := g) (c := c) (e := e) ⟨hc.1, by omega⟩ e1 hW.2
        rw [o1, o2, o3]
        exact a1 e (by omega) (by omega)
theorem o_removeCorridor {S : Int → Int} {c : Int} (hr : RL S M) : uok (d + 12) 110 180 [zI c] S M := by
  have h' := hr
  obtain ⟨h1, h2, h3, h4, h5, h6⟩ := hr
  have hW := wf_W h2
  have sl := slo_rg (M 19 1)
  obtain ⟨Ma, ea, fa, da⟩ := x_prepare (d := d + 8) h4.1 h2 h3
  have da1 : dgr Ma 1 (M 139) := dgr_cg (fun b b0 b1 => fa b (by omega)) h3
  have a39 : Ma 139 = M 139 := fa 139 (by omega)
  have a19 : Ma 19 = M 19 := fa 19 (by omega)
  by_cases hc : 0 ≤ c ∧ c < M 139 121
  · obtain ⟨Mb, eb, fb, db⟩ := x_dropCorridor (d := d + 9) h2 da1 hc
    have b19 : Mb 19 = M 19 := (fb 19 (by omega)).trans a19
    have hb1 : 0 ≤ Mb 19 1 ∧ Mb 19 1 < 7 := by rw [b19]; exact h4.1
    have hb2 : 0 ≤ Mb 19 2 ∧ Mb 19 2 ≤ 6 := by rw [b19, h4.2.2.1]; exact h4.2.1
    have c39 : cmx Mb 139 = M 139 := ((cmx_n (by decide)).trans (fb 139 (by omega))).trans a39
    obtain ⟨Md, ed, fd, ad⟩ := m_remembers (d := d + 10) (M := cmx Mb)
    obtain ⟨Me, ee, fe, ge⟩ := m_cuts (d := d + 10) (M := Md) (g := M 139) hW.2 hc ((fd 139 (by decide)).trans c39)
    have e2 : Me 138 2 = M 138 2 := by rw [fe 138 (by decide), fd 138 (by decide), cmx_n (by decide), fb 138 (by omega), fa 138 (by omega)]
    obtain ⟨Mf, ef, ff, hf⟩ := m_changes (d := d + 10) (M := Me) (by rw [e2]; exact h4.2.1)
    refine ⟨zI (M 139 121 - 1), cmx Mb, Mf, ?_, ?_, ?_⟩
    · rw [en_110, q_110_0, ea, Cb_V, q_110_11, eb, Cb_I, q_110_20, x_settled hb1 hb2, Cb_I, q_110_23, if_neg (by omega)]
    · rw [en_180, q_180_0, m_isCorridor _ (by rw [c39]; exact hW), Cb_I, c39, q_180_5, if_pos (bI_n0.2 hc), ed, Cb_V, q_180_15, ee, Cb_V, q_180_20, ef, Cb_V, q_180_24, ff.1 139 (by decide) (by decide), ge, gCut_n]
    · have m42 : ∀ i, 0 ≤ i → i < 124 → Me 142 i = M 139 i := fun i i0 i1 => by rw [fe 142 (by decide), ad i i0 i1, c39]
      refine RL_chg (Md := Me) h' fa da (fxs_9 fb) (fms_t (fms_1 fd (by omega)) (fms_1 fe (by omega))) ff ⟨hf.1, fun i i0 i1 => ⟨(hf.2 i i0 i1).1, (hf.2 i i0 i1).2.trans (m42 i i0 i1)⟩⟩ (by rw [ge]; exact gCut_WF h2 hc) (by rw [ge]; exact db)
  · refine ⟨zI (-101), Ma, Ma, ?_, ?_, RL_nop h' fa frr_r fm_r⟩
    · rw [en_110, q_110_0, ea, Cb_V, q_110_11, en_28, q_28_0, x_hasCorridor da1, Cb_I, q_28_5, if_neg (fun q => q (bI_0.2 hc)), Cb_I, q_110_20, x_settled (by rw [a19]; exact h4.1) (by rw [a19, h4.2.2.1]; exact h4.2.1), Cb_I, q_110_23, if_pos (by decide)]
    · rw [en_180, q_180_0, m_isCorridor _ (by rw [a39]; exact hW), Cb_I, a39, q_180_5, if_neg (fun q => q (bI_0.2 hc))]
theorem o_setCurve {S : Int → Int} {c : Int} (hr : RL S M) : uok (d + 12) 114 198 [zI c] S M := by
  have h' := hr
  obtain ⟨h1, h2, h3, h4, h5, h6⟩ := hr
  have hU := wf_U h2
  have sl := slo_rg (M 19 1)
  by_cases hc : 0 ≤ c ∧ c ≤ 2
  · obtain ⟨Ma, ea, fa, da⟩ := x_prepare (d := d + 8) h4.1 h2 h3
    have da1 : dgr Ma 1 (M 139) := dgr_cg (fun b b0 b1 => fa b (by omega)) h3
    generalize hMb : zwr Ma 1 11 c = Mb
    have fb : frr 1 9 Ma Mb := by rw [← hMb]; exact frr_w frr_r (by omega) (by omega)
    have db : dgr Mb 1 (up1 (M 139) 123 c) := by rw [← hMb]; exact dgr_hi h2 da1 (Or.inr ⟨rfl, rfl⟩)
    have a39 : Ma 139 = M 139 := fa 139 (by omega)
    have b19 : Mb 19 = M 19 := (fb 19 (by omega)).trans (fa 19 (by omega))
    have hb1 : 0 ≤ Mb 19 1 ∧ Mb 19 1 < 7 := by rw [b19]; exact h4.1
    have hb2 : 0 ≤ Mb 19 2 ∧ Mb 19 2 ≤ 6 := by rw [b19, h4.2.2.1]; exact h4.2.1
    have c39 : cmx Mb 139 = M 139 := ((cmx_n (by decide)).trans (fb 139 (by omega))).trans a39
    obtain ⟨Md, ed, fd, ad⟩ := m_remembers (d := d + 10) (M := cmx Mb)
    have e2 : Md 138 2 = M 138 2 := by rw [fd 138 (by decide), cmx_n (by decide), fb 138 (by omega), fa 138 (by omega)]
    obtain ⟨Mf, ef, ff, hf⟩ := m_changes (d := d + 10) (M := Md) (by rw [e2]; exact h4.2.1)
    have f39 : Mf 139 = M 139 := ((ff.1 139 (by decide) (by decide)).trans (fd 139 (by decide))).trans c39
    refine ⟨zI (M 139 123), cmx Mb, zwr Mf 139 123 c, ?_, ?_, ?_⟩
    · rw [en_114, q_114_0, if_neg (by omega), if_pos (by omega), ea, Cb_V, q_114_23, hMb, h1U da1, x_settled hb1 hb2, Cb_I, q_114_44, if_neg (by omega)]
    · rw [en_198, q_198_0, m_in, Cb_I, q_198_6, if_pos (bI_n0.2 hc), ed, Cb_V, q_198_16, ef, Cb_V, q_198_20, f39]
    · have m42 : ∀ i, 0 ≤ i → i < 124 → Md 142 i = M 139 i := fun i i0 i1 => by rw [ad i i0 i1, c39]
      -- the same as if the row were written first
      have swap : fh (zwr Md 139 123 c) (zwr Mf 139 123 c) := ⟨fun b p q => by
        by_cases e : b = 139
        · rw [e, zwr_u, zwr_u, ff.1 139 (by decide) (by decide)]
        · rw [zwr_n e, zwr_n e]
          exact ff.1 b p q, fun f hf' => by rw [zwr_ne (by decide), zwr_ne (by decide)]; exact ff.2 f hf'⟩
      have gd : (zwr Md 139 123 c) 139 = up1 (M 139) 123 c := by rw [zwr_u, fd 139 (by decide), c39]
      refine RL_chg (Md := zwr Md 139 123 c) h' fa da (fxs_9 fb) (fms_t (fms_1 fd (by omega)) (fms_1 (fr1_w fr1_r) (by omega))) swap ⟨?_, fun i i0 i1 => ?_⟩ (by rw [gd]; exact hi_WF h2 (Or.inr ⟨rfl, hc⟩)) (by rw [gd]; exact db)
      · rw [zwr_ne (by decide), zwr_ne (by decide)]
        exact hf.1
      · rw [zwr_ne (by decide), zwr_ne (by decide), zwr_n (by decide), zwr_n (by decide)]
        exact ⟨(hf.2 i i0 i1).1, (hf.2 i i0 i1).2.trans (m42 i i0 i1)⟩
  · refine ⟨zI (-102), M, M, ?_, ?_, h'⟩
    · rw [en_114, q_114_0]
      by_cases k : c < 0
      · rw [if_pos k]
      · rw [if_neg k, if_neg (by omega)]
    · rw [en_198, q_198_0, m_in, Cb_I, q_198_6, if_neg (fun q => q (bI_0.2 hc))]
end
