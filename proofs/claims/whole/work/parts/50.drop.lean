/-! a room is taken away -/
section
variable {p : Int → Prop} {n m : Int}
theorem cn_mn (h0 : 0 ≤ m) (h : m ≤ n) : cn p m ≤ cn p n := by
  have : ∀ k : Nat, cn p m ≤ cn p (m + k) := by
    intro k
    induction k with
    | zero => rw [show m + ((0 : Nat) : Int) = m by omega]; exact Int.le_refl _
    | succ k ih =>
      rw [show m + ((k + 1 : Nat) : Int) = m + k + 1 by omega, cn_s (by omega)]
      have := @bI_01 (p (m + k))
      omega
  have k := this (n - m).toNat
  rw [show m + ((n - m).toNat : Int) = n by omega] at k
  exact k
theorem cn_pl {e : Int} (h : 0 ≤ e ∧ e < n) (k : p e) : cn p e < cn p n := by
  have h1 := cn_mn (p := p) (m := e + 1) (n := n) (by omega) (by omega)
  rw [cn_s h.1, bI_t k] at h1
  omega
theorem cn_sur : ∀ (k : Nat) (j : Int), 0 ≤ j → j < cn p k → ∃ e, (0 ≤ e ∧ e < (k : Int)) ∧ p e ∧ cn p e = j
  | 0, j, j0, j1 => by
    have : cn p ((0 : Nat) : Int) = 0 := rfl
    omega
  | k + 1, j, j0, j1 => by
    rw [show ((k + 1 : Nat) : Int) = (k : Int) + 1 by omega, cn_s (by omega)] at j1
    by_cases q : p k
    · rw [bI_t q] at j1
      by_cases e : j = cn p k
      · exact ⟨k, by omega, q, e.symm⟩
      · obtain ⟨e, e0, e1, e2⟩ := cn_sur k j j0 (by omega)
        exact ⟨e, by omega, e1, e2⟩
    · rw [bI_f q] at j1
      obtain ⟨e, e0, e1, e2⟩ := cn_sur k j j0 (by omega)
      exact ⟨e, by omega, e1, e2⟩
end
def nEd (g : Int → Int) (r e : Int) : Prop := ¬ eds g e r
def sam3 (G g : Int → Int) (j e : Int) : Prop := gA G j = gA g e ∧ gB G j = gB g e ∧ gL G j = gL g e
/-- the corridors from c on that do not end in the room have moved together -/
def cutP (g : Int → Int) (r c : Int) (G : Int → Int) : Prop := (∀ i, i ≠ 121 → (i < 60 ∨ 120 ≤ i) → G i = g i) ∧ G 121 = c + cn (nEd g r) (g 121) - cn (nEd g r) c ∧ (∀ e, 0 ≤ e → e < c → sam3 G g e e) ∧ ∀ e, c ≤ e → e < g 121 → nEd g r e → sam3 G g (c + cn (nEd g r) e - cn (nEd g r) c) e
def rn (r v : Int) : Int := if v ≤ r then v else v - 1
def RA (G : Int → Int) (r j : Int) : Int → Int := fun i => if (60 ≤ i ∧ i < j) ∧ (i - 60) % 3 ≠ 2 then rn r (G i) else G i
def RB (H : Int → Int) (j k : Int) : Int → Int := fun i => if j ≤ i ∧ i < k then H (i + 5) else H i
def drG (G : Int → Int) (r : Int) : Int → Int := up1 (RB (up1 (RA G r (60 + 3 * G 121)) 120 (G 120 - 1)) (5 * r) (5 * (G 120 - 1))) 122 (if G 122 = r then 0 else rn r (G 122))
section
variable {d : Nat} {M : ZM} {g G : Int → Int}
theorem cutP_y {r c : Int} (h : cutP g r (c + 1) G) (hw : WF g) (hc : 0 ≤ c ∧ c < g 121) (k : eds g c r) : cutP g r c (gCut G c) ∧ c < G 121 ∧ G 121 ≤ 20 := by
  have hW := wf_W hw
  obtain ⟨h1, h2, h3, h4⟩ := h
  have s := cn_s (p := nEd g r) hc.1
  rw [bI_f (fun z => z k)] at s
  have mn := cn_mn (p := nEd g r) (m := c + 1) (n := g 121) (by omega) (by omega)
  have lt : cn (nEd g r) (g 121) ≤ g 121 - c - 1 + cn (nEd g r) (c + 1) := by
    have : ∀ k : Nat, cn (nEd g r) (c + 1 + k) ≤ k + cn (nEd g r) (c + 1) := by
      intro k
      induction k with
      | zero => rw [show c + 1 + ((0 : Nat) : Int) = c + 1 by omega]; omega
      | succ k ih =>
        rw [show c + 1 + ((k + 1 : Nat) : Int) = c + 1 + k + 1 by omega, cn_s (by omega)]
        have := @bI_01 (nEd g r (c + 1 + k))
        omega
    have k := this (g 121 - c - 1).toNat
    rw [show c + 1 + ((g 121 - c - 1).toNat : Int) = g 121 by omega] at k
    omega
  have G1 : c < G 121 ∧ G 121 ≤ 20 := by omega
  refine ⟨⟨fun i i0 i1 => ?_, ?_, fun e e0 e1 => ?_, fun e e0 e1 e2 => ?_⟩, G1⟩
  · rw [gCut_o i0 ⟨hc.1, G1.1⟩ G1.2 i1]
    exact h1 i i0 i1
  · rw [gCut_n]
    omega
  · obtain ⟨o1, o2, o3⟩ := gCut_lo (g := G) hc.1 ⟨e0, e1⟩ G1.2 G1.1
    unfold sam3
    rw [o1, o2, o3]
    exact h3 e e0 (by omega)
  · have ne : e ≠ c := fun q => by rw [q] at e2; exact e2 k
    have pl := cn_pl (p := nEd g r) (e := e) (n := g 121) ⟨by omega, e1⟩ e2
    have ge := cn_mn (p := nEd g r) (m := c + 1) (n := e) (by omega) (by omega)
    have w := h4 e (by omega) e1 e2
    obtain ⟨o1, o2, o3⟩ := gCut_hi (g := G) (c := c) (e := c + cn (nEd g r) e - cn (nEd g r) c) (by omega) (by omega) G1.2
    unfold sam3 at w ⊢
    rw [o1, o2, o3, show c + cn (nEd g r) e - cn (nEd g r) c + 1 = c + 1 + cn (nEd g r) e - cn (nEd g r) (c + 1) by omega]
    exact w
theorem cutP_n {r c : Int} (h : cutP g r (c + 1) G) (hc : 0 ≤ c ∧ c < g 121) (k : ¬ eds g c r) : cutP g r c G := by
  obtain ⟨h1, h2, h3, h4⟩ := h
  have s := cn_s (p := nEd g r) hc.1
  rw [bI_t (show nEd g r c from k)] at s
  refine ⟨h1, by omega, fun e e0 e1 => h3 e e0 (by omega), fun e e0 e1 e2 => ?_⟩
  by_cases q : e = c
  · rw [q, show c + cn (nEd g r) c - cn (nEd g r) c = c by omega]
    exact h3 c hc.1 (by omega)
  · have w := h4 e (by omega) e1 e2
    rw [show c + 1 + cn (nEd g r) e - cn (nEd g r) (c + 1) = c + cn (nEd g r) e - cn (nEd g r) c by omega] at w
    exact w
theorem cutP_i (c : Int) (hc : c = g 121) {r : Int} : cutP g r c g := by
  subst hc
  exact ⟨fun _ _ _ => rfl, by omega, fun e _ _ => ⟨rfl, rfl, rfl⟩, fun e e0 e1 => absurd e1 (by omega)⟩
/-- the rooms and corridors of what is left -/
theorem cut_c {r : Int} (h : cutP g r 0 G) (hw : WF g) {j : Int} (hj : 0 ≤ j ∧ j < G 121) : ∃ e, (0 ≤ e ∧ e < g 121) ∧ nEd g r e ∧ cn (nEd g r) e = j ∧ sam3 G g j e := by
  have hW := wf_W hw
  obtain ⟨h1, h2, h3, h4⟩ := h
  have z : cn (nEd g r) 0 = 0 := rfl
  obtain ⟨e, e0, e1, e2⟩ := cn_sur (p := nEd g r) (g 121).toNat j hj.1 (by rw [Int.toNat_of_nonneg hW.1]; omega)
  have w := h4 e e0.1 (by omega) e1
  rw [z, show (0 : Int) + cn (nEd g r) e - 0 = j by omega] at w
  exact ⟨e, by omega, e1, e2, w⟩
theorem cut_r {r s : Int} (h : cutP g r 0 G) (hs : 0 ≤ s ∧ s < 12) : gX G s = gX g s ∧ gY G s = gY g s ∧ gW G s = gW g s ∧ gH G s = gH g s ∧ gK G s = gK g s := by
  unfold gX gY gW gH gK
  exact ⟨h.1 _ (by omega) (by omega), h.1 _ (by omega) (by omega), h.1 _ (by omega) (by omega), h.1 _ (by omega) (by omega), h.1 _ (by omega) (by omega)⟩
theorem cut_WF {r : Int} (h : cutP g r 0 G) (hw : WF g) : WF G := by
  have hR := wf_R hw
  have hW := wf_W hw
  have z : cn (nEd g r) 0 = 0 := rfl
  have le := cn_le (p := nEd g r) hW.1
  have h2 := h.2.1
  refine WF_of hw ⟨h.1 _ (by omega) (by omega), h.1 _ (by omega) (by omega), h.1 _ (by omega) (by omega), fun s s0 s1 => ?_⟩ (fun s s0 s1 => ?_) (by omega) (fun c c0 c1 => ?_) (fun c f c0 c1 f0 f1 => ?_)
  · obtain ⟨o1, o2, o3, o4, o5⟩ := cut_r h (s := s) (by omega)
    exact ⟨o1, o2, o3, o4⟩
  · rw [(cut_r h (s := s) (by omega)).2.2.2.2]
    exact wf_k hw ⟨s0, s1⟩
  · obtain ⟨e, e0, e1, e2, e3, e4, e5⟩ := cut_c h hw ⟨c0, c1⟩
    rw [e3, e4, e5]
    exact wf_c hw e0
  · obtain ⟨e, e0, e1, e2, e3, e4, e5⟩ := cut_c h hw ⟨c0, c1⟩
    obtain ⟨k, k0, k1, k2, k3, k4, k5⟩ := cut_c h hw ⟨f0, f1⟩
    rw [e3, e4, k3, k4]
    intro p q
    have := hw.2.2.2.2 e k e0.1 e0.2 k0.1 k0.2 p q
    rw [← e2, ← k2, this]
/-- no corridor that is left ends in the room -/
theorem cut_ne {r c : Int} (h : cutP g r 0 G) (hw : WF g) (hc : 0 ≤ c ∧ c < G 121) : gA G c ≠ r ∧ gB G c ≠ r := by
  obtain ⟨e, e0, e1, e2, e3, e4, e5⟩ := cut_c h hw hc
  rw [e3, e4]
  unfold nEd eds at e1
  omega
-- what is left when the rooms have moved
theorem dr_r {r s : Int} (hR : 0 ≤ G 120 ∧ G 120 ≤ 12) (hs : 0 ≤ s ∧ s < G 120 - 1) (hr : 0 ≤ r) : ∃ t, (0 ≤ t ∧ t < G 120) ∧ t = (if s < r then s else s + 1) ∧ gX (drG G r) s = gX G t ∧ gY (drG G r) s = gY G t ∧ gW (drG G r) s = gW G t ∧ gH (drG G r) s = gH G t ∧ gK (drG G r) s = gK G t := by
  unfold gX gY gW gH gK drG
  by_cases k : s < r
  · refine ⟨s, by omega, by rw [if_pos k], ?_⟩
    rw [up1_n (by omega), up1_n (by omega), up1_n (by omega), up1_n (by omega), up1_n (by omega)]
    unfold RB
    rw [if_neg (by omega), if_neg (by omega), if_neg (by omega), if_neg (by omega), if_neg (by omega), up1_n (by omega), up1_n (by omega), up1_n (by omega), up1_n (by omega), up1_n (by omega)]
    unfold RA
    rw [if_neg (by omega), if_neg (by omega), if_neg (by omega), if_neg (by omega), if_neg (by omega)]
    exact ⟨rfl, rfl, rfl, rfl, rfl⟩
  · refine ⟨s + 1, by omega, by rw [if_neg k], ?_⟩
    rw [up1_n (by omega), up1_n (by omega), up1_n (by omega), up1_n (by omega), up1_n (by omega)]
    unfold RB
    rw [if_pos (by omega), if_pos (by omega), if_pos (by omega), if_pos (by omega), if_pos (by omega), up1_n (by omega), up1_n (by omega), up1_n (by omega), up1_n (by omega), up1_n (by omega)]
    unfold RA
    rw [if_neg (by omega), if_neg (by omega), if_neg (by omega), if_neg (by omega), if_neg (by omega), show 5 * s + 0 + 5 = 5 * (s + 1) + 0 by omega, show 5 * s + 1 + 5 = 5 * (s + 1) + 1 by omega, show 5 * s + 2 + 5 = 5 * (s + 1) + 2 by omega, show 5 * s + 3 + 5 = 5 * (s + 1) + 3 by omega, show 5 * s + 4 + 5 = 5 * (s + 1) + 4 by omega]
    exact ⟨rfl, rfl, rfl, rfl, rfl⟩
theorem dr_c {r c : Int} (hR : 0 ≤ G 120 ∧ G 120 ≤ 12) (hW : G 121 ≤ 20) (hc : 0 ≤ c ∧ c < G 121) : gA (drG G r) c = rn r (gA G c) ∧ gB (drG G r) c = rn r (gB G c) ∧ gL (drG G r) c = gL G c := by
  unfold gA gB gL drG
  rw [up1_n (by omega), up1_n (by omega), up1_n (by omega)]
  unfold RB
  rw [if_neg (by omega), if_neg (by omega), if_neg (by omega), up1_n (by omega), up1_n (by omega), up1_n (by omega)]
  unfold RA
  rw [if_pos (by omega), if_pos (by omega), if_neg (by omega)]
  exact ⟨rfl, rfl, rfl⟩
theorem dr_n {r : Int} (hR : 0 ≤ G 120 ∧ G 120 ≤ 12) (hW : G 121 ≤ 20) : drG G r 120 = G 120 - 1 ∧ drG G r 121 = G 121 ∧ drG G r 122 = (if G 122 = r then 0 else rn r (G 122)) ∧ drG G r 123 = G 123 := by
  unfold drG
  refine ⟨?_, ?_, up1_s _ _ _, ?_⟩
  · rw [up1_n (by omega)]
    unfold RB
    rw [if_neg (by omega), up1_s]
  · rw [up1_n (by omega)]
    unfold RB
    rw [if_neg (by omega), up1_n (by omega)]
    unfold RA
    rw [if_neg (by omega)]
  · rw [up1_n (by omega)]
    unfold RB
    rw [if_neg (by omega), up1_n (by omega)]
    unfold RA
    rw [if_neg (by omega)]
theorem rn_c (r v : Int) : v ≤ r ∧ rn r v = v ∨ r < v ∧ rn r v = v - 1 := by
  unfold rn
  split <;> omega
theorem dr_WF {r : Int} (h : cutP g r 0 G) (hw : WF g) (hr : 0 ≤ r ∧ r < g 120) : WF (drG G r) := by
  have hG := cut_WF h hw
  have hR := wf_R hG
  have hW := wf_W hG
  have hE := wf_E hG
  have hU := wf_U hG
  have g120 : G 120 = g 120 := h.1 _ (by omega) (by omega)
  obtain ⟨n0, n1, n2, n3⟩ := dr_n (G := G) (r := r) hR hW.2
  refine ⟨?_, fun s s0 s1 => ?_, fun s t s0 s1 t0 t1 ne => ?_, fun c c0 c1 => ?_, fun c e c0 c1 e0 e1 => ?_⟩
  · unfold wfN
    rw [n0, n1, n2, n3]
    have := rn_c r (G 122)
    split <;> omega
  · rw [n0] at s1
    obtain ⟨t, t0, t1, o1, o2, o3, o4, o5⟩ := dr_r (G := G) hR ⟨s0, s1⟩ hr.1
    have k := wf_r hG t0
    unfold wfR at k ⊢
    rw [o1, o2, o3, o4, o5]
    exact k
  · rw [n0] at s1 t1
    obtain ⟨a, a0, a1, o1, o2, o3, o4, o5⟩ := dr_r (G := G) hR ⟨s0, s1⟩ hr.1
    obtain ⟨b, b0, b1, q1, q2, q3, q4, q5⟩ := dr_r (G := G) hR ⟨t0, t1⟩ hr.1
    have k := hG.2.2.1 a b a0.1 a0.2 b0.1 b0.2 (by rw [a1, b1]; split <;> split <;> omega)
    unfold wfP at k ⊢
    rw [o1, o2, o3, o4, q1, q2, q3, q4]
    exact k
  · rw [n1] at c1
    obtain ⟨o1, o2, o3⟩ := dr_c (G := G) (r := r) hR hW.2 ⟨c0, c1⟩
    have k := wf_c hG ⟨c0, c1⟩
    have ne := cut_ne h hw ⟨c0, c1⟩
    have r1 := rn_c r (gA G c)
    have r2 := rn_c r (gB G c)
    unfold wfC at k ⊢
    rw [o1, o2, o3, n0]
    omega
  · rw [n1] at c1 e1
    obtain ⟨o1, o2, o3⟩ := dr_c (G := G) (r := r) hR hW.2 ⟨c0, c1⟩
    obtain ⟨q1, q2, q3⟩ := dr_c (G := G) (r := r) hR hW.2 ⟨e0, e1⟩
    rw [o1, o2, q1, q2]
    intro p q
    have ne := cut_ne h hw ⟨c0, c1⟩
    have ne2 := cut_ne h hw ⟨e0, e1⟩
    have r1 := rn_c r (gA G c)
    have r2 := rn_c r (gB G c)
    have r3 := rn_c r (gA G e)
    have r4 := rn_c r (gB G e)
    exact hG.2.2.2.2 c e c0 c1 e0 e1 (by omega) (by omega)
theorem x_dropC {r : Int} (hw : WF g) (hd : dgr M 1 g) (h : cutP g r 0 G) : ∃ M', E (d + 3) 26 [zR 1, zI r] M = Rt none M' ∧ frr 1 9 M M' ∧ dgr M' 1 G := by
  have hR := wf_R hw
  have hW := wf_W hw
  have z0 : cn (nEd g r) 0 = 0 := rfl
  rw [en_26, q_26_0]
  refine lpi (fun i (M1 : ZM) => Q (d + 2) 26 4 [zR 1, zI r, zI (cn (nEd g r) i), zI i] [] M1) (fun o => ∃ M', o = Rt none M' ∧ frr 1 9 M M' ∧ dgr M' 1 G) (g 121) (fun i M1 => (∀ b, b < 7 ∨ 9 < b → M1 b = M b) ∧ (∀ e, 0 ≤ e → e < i → nEd g r e → M1 7 (cn (nEd g r) e) = gA g e ∧ M1 8 (cn (nEd g r) e) = gB g e ∧ M1 9 (cn (nEd g r) e) = gL g e) ∧ ∀ e, i ≤ e → e < g 121 → M1 7 e = gA g e ∧ M1 8 e = gB g e ∧ M1 9 e = gL g e) ?_ ?_ 0 M (by omega) ⟨fun _ _ => rfl, fun e e0 e1 => absurd e1 (by omega), fun e e0 e1 => hd.2.2 e e0 e1⟩
  · rintro i M1 i0 i1 ⟨f1, a1, b1⟩
    have le := cn_le (p := nEd g r) i0
    have cur := b1 i (Int.le_refl _) i1
    -- the present corridor as the class sees it
    have ends : E (d + 2) 29 [zR 1, zI i, zI r] M1 = Rt (some (zI (bI (eds g i r)))) M1 := by
      rw [en_29, q_29_0, if_pos (by omega), cur.1, cur.2.1]
      by_cases k : gA g i = r
      · rw [if_pos k, bI_t (show eds g i r from Or.inl k)]
      · rw [if_neg k, if_pos (by omega)]
        by_cases l : gB g i = r
        · rw [if_neg (by omega), bI_t (show eds g i r from Or.inr l)]
        · rw [if_pos l, bI_f (show ¬ eds g i r from not_or.2 ⟨k, l⟩)]
    refine Or.inr ?_
    rw [cn_s i0, q_26_4, f1 1 (by omega), h1W hd, if_neg (by omega), ends, Cb_I, q_26_18]
    by_cases k : eds g i r
    · refine ⟨M1, by rw [if_pos (bI_n0.2 k), bI_f (show ¬ nEd g r i from fun q => q k), Int.add_zero, zw_id (by omega)], f1, fun e e0 e1 e2 => ?_, fun e e0 e1 => b1 e (by omega) e1⟩
      have ne : e ≠ i := fun q => by rw [q] at e2; exact e2 k
      exact a1 e e0 (by omega) e2
    · obtain ⟨M2, e2, f2, p1, p2, p3⟩ := x_takeCorridor (d := d + 1) (M := M1) (D := 1) (F := 1) zDn_1 zDn_1 (i := cn (nEd g r) i) (j := i) (by omega) (by omega)
      refine ⟨M2, ?_, fun b hb => (f2 b (by omega)).trans (f1 b hb), fun e e0 e1 e3 => ?_, fun e e0 e1 => ?_⟩
      · rw [if_neg (fun q => q (bI_0.2 k)), e2, Cb_V, q_26_28, bI_t (show nEd g r i from k), zw_id (by omega), zw_id (by omega)]
      · rw [p1, p2, p3]
        by_cases q : e = i
        · rw [q, up1_s, up1_s, up1_s]
          exact cur
        · have pl := cn_pl (p := nEd g r) (e := e) (n := i) (by omega) e3
          rw [up1_n (by omega), up1_n (by omega), up1_n (by omega)]
          exact a1 e e0 (by omega) e3
      · rw [p1, p2, p3, up1_n (by omega), up1_n (by omega), up1_n (by omega)]
        exact b1 e (by omega) e1
  · rintro M1 ⟨f1, a1, b1⟩
    have h2 := h.2.1
    refine ⟨zwr M1 1 9 (cn (nEd g r) (g 121)), ?_, fun b hb => by rw [zwr_n (by omega)]; exact f1 b (by omega), ⟨?_, ?_, ?_, ?_⟩, fun s s0 s1 => ?_, fun c c0 c1 => ?_⟩
    · rw [q_26_4, f1 1 (by omega), h1W hd, if_pos (Int.le_refl _)]
    · rw [zwr_nj (by decide), f1 1 (by omega), h1R hd, h.1 _ (by omega) (by omega)]
    · rw [zwr_at]
      omega
    · rw [zwr_nj (by decide), f1 1 (by omega), h1E hd, h.1 _ (by omega) (by omega)]
    · rw [zwr_nj (by decide), f1 1 (by omega), h1U hd, h.1 _ (by omega) (by omega)]
    · rw [h.1 _ (by omega) (by omega)] at s1
      obtain ⟨o1, o2, o3, o4, o5⟩ := cut_r h (s := s) (by omega)
      unfold dgR
      rw [o1, o2, o3, o4, o5, zwr_ne (by decide), zwr_ne (by decide), zwr_ne (by decide), zwr_ne (by decide), zwr_ne (by decide), f1 (1 + 1) (by omega), f1 (1 + 2) (by omega), f1 (1 + 3) (by omega), f1 (1 + 4) (by omega), f1 (1 + 5) (by omega)]
      exact hd.2.1 s s0 s1
    · obtain ⟨e, e0, e1, e2, e3, e4, e5⟩ := cut_c h hw ⟨c0, c1⟩
      unfold dgC
      rw [e3, e4, e5, zwr_ne (by decide), zwr_ne (by decide), zwr_ne (by decide), ← e2]
      exact a1 e e0.1 e0.2 e1
theorem x_renum {v r : Int} (h : -1000 < v ∧ v < 1000) : E (d + 1) 27 [zI v, zI r] M = Rt (some (zI (rn r v))) M := by
  rw [en_27, q_27_0]
  unfold rn
  by_cases k : v ≤ r
  · rw [if_pos k, if_pos k]
  · rw [if_neg k, if_neg k, zw_id (by omega)]
theorem x_dropRoom {r : Int} (hw : WF g) (hd : dgr M 1 g) (hr : 0 ≤ r ∧ r < g 120) (h : cutP g r 0 G) : ∃ M', E (d + 4) 25 [zR 1, zI r] M = Rt (some (zI (g 120 - 1))) M' ∧ frr 1 9 M M' ∧ dgr M' 1 (drG G r) := by
  have hG := cut_WF h hw
  have hR := wf_R hG
  have hW := wf_W hG
  have hE := wf_E hG
  have e120 : G 120 = g 120 := h.1 _ (by omega) (by omega)
  obtain ⟨n0, n1, n2, n3⟩ := dr_n (G := G) (r := r) hR hW.2
  obtain ⟨M1, e1, f1, d1⟩ := x_dropC (d := d) hw hd h
  rw [en_25, q_25_0, x_hasRoom hd, Cb_I, q_25_5, if_pos (bI_n0.2 hr), e1, Cb_V, q_25_16, zw_id (x := r + 1) (by omega), ← e120]
  rw [← e120] at hr
  refine lpi (fun i (M2 : ZM) => Q (d + 3) 25 20 [zR 1, zI r, zI (r + 1 + i)] [] M2) (fun o => ∃ M', o = Rt (some (zI (G 120 - 1))) M' ∧ frr 1 9 M M' ∧ dgr M' 1 (drG G r)) (G 120 - 1 - r) (fun i M2 => (∀ b, b ≤ 1 ∨ 6 < b → M2 b = M1 b) ∧ (∀ s, r ≤ s → s < r + i → M2 2 s = gX G (s + 1) ∧ M2 3 s = gY G (s + 1) ∧ M2 4 s = gW G (s + 1) ∧ M2 5 s = gH G (s + 1) ∧ M2 6 s = gK G (s + 1)) ∧ ∀ s, 0 ≤ s → s < G 120 → (s < r ∨ r + i ≤ s) → M2 2 s = gX G s ∧ M2 3 s = gY G s ∧ M2 4 s = gW G s ∧ M2 5 s = gH G s ∧ M2 6 s = gK G s) ?_ ?_ 0 M1 (by omega) ⟨fun _ _ => rfl, fun s s0 s1 => absurd s1 (by omega), fun s s0 s1 _ => d1.2.1 s s0 s1⟩ |> fun z => ?_
  · rw [Int.add_zero] at z
    exact z
  · rintro i M2 i0 i1 ⟨f2, a2, b2⟩
    obtain ⟨M3, e3, f3, p1, p2, p3, p4, p5⟩ := x_takeRoom (d := d + 2) (M := M2) (D := 1) (F := 1) zDn_1 zDn_1 (i := r + i) (j := r + 1 + i) (by omega) (by omega)
    have src := b2 (r + 1 + i) (by omega) (by omega) (by omega)
    refine Or.inr ⟨M3, ?_, fun b hb => (f3 b (by omega)).trans (f2 b hb), fun s s0 s1 => ?_, fun s s0 s1 s2 => ?_⟩
    · rw [q_25_20, f2 1 (by omega), h1R d1, if_neg (by omega), zw_id (x := r + 1 + i - 1) (by omega), show r + 1 + i - 1 = r + i by omega, e3, Cb_V, q_25_37, zw_id (by omega), Int.add_assoc (r + 1) i 1]
    · rw [p1, p2, p3, p4, p5]
      by_cases q : s = r + i
      · rw [q, up1_s, up1_s, up1_s, up1_s, up1_s, show r + i + 1 = r + 1 + i by omega]
        exact src
      · rw [up1_n q, up1_n q, up1_n q, up1_n q, up1_n q]
        exact a2 s s0 (by omega)
    · rw [p1, p2, p3, p4, p5, up1_n (by omega), up1_n (by omega), up1_n (by omega), up1_n (by omega), up1_n (by omega)]
      exact b2 s s0 s1 (by omega)
  · rintro M2 ⟨f2, a2, b2⟩
    rw [q_25_20, f2 1 (by omega), h1R d1, if_pos (by omega), zw_id (x := G 120 - 1) (by omega)]
    -- the new numbers
    refine lpi (fun i (M3 : ZM) => Q (d + 3) 25 55 [zR 1, zI r, zI i] [] M3) (fun o => ∃ M', o = Rt (some (zI (G 120 - 1))) M' ∧ frr 1 9 M M' ∧ dgr M' 1 (drG G r)) (G 121) (fun i M3 => (∀ b, b < 7 ∨ 8 < b → M3 b = (zwr M2 1 8 (G 120 - 1)) b) ∧ (∀ c, 0 ≤ c → c < i → M3 7 c = rn r (gA G c) ∧ M3 8 c = rn r (gB G c)) ∧ ∀ c, i ≤ c → c < G 121 → M3 7 c = gA G c ∧ M3 8 c = gB G c) ?_ ?_ 0 (zwr M2 1 8 (G 120 - 1)) (by omega) ⟨fun _ _ => rfl, fun c c0 c1 => absurd c1 (by omega), fun c c0 c1 => by
      rw [zwr_n (by decide), zwr_n (by decide), f2 7 (by omega), f2 8 (by omega)]
      exact ⟨h1a d1 ⟨c0, c1⟩, h1b d1 ⟨c0, c1⟩⟩⟩
    · rintro i M3 i0 i1 ⟨f3, a3, b3⟩
      have hab := wf_ab hG ⟨i0, i1⟩
      have cur := b3 i (Int.le_refl _) i1
      have m19 : M3 1 9 = G 121 := by rw [f3 1 (by omega), zwr_nj (by decide), f2 1 (by omega), h1W d1]
      refine Or.inr ⟨zwr (zwr M3 7 i (rn r (gA G i))) 8 i (rn r (gB G i)), ?_, fun b hb => by rw [zwr_n (by omega), zwr_n (by omega)]; exact f3 b hb, fun c c0 c1 => ?_, fun c c0 c1 => ?_⟩
      · rw [q_25_55, m19, if_neg (by omega), if_pos (by omega), cur.1, x_renum (by omega), Cb_I, q_25_78, if_pos (by omega), if_pos (by omega), zwr_ne (by decide), cur.2, x_renum (by omega), Cb_I, q_25_94, if_pos (by omega), zw_id (by omega)]
      · rw [zwr_ne (show (7 : Nat) ≠ 8 by decide)]
        by_cases q : c = i
        · rw [q, zwr_at, zwr_at]
          exact ⟨rfl, rfl⟩
        · rw [zwr_nj q, zwr_nj q, zwr_ne (by decide)]
          exact a3 c c0 (by omega)
      · rw [zwr_ne (show (7 : Nat) ≠ 8 by decide), zwr_nj (by omega), zwr_nj (by omega), zwr_ne (by decide)]
        exact b3 c (by omega) c1
    · rintro M3 ⟨f3, a3, b3⟩
      have m19 : M3 1 9 = G 121 := by rw [f3 1 (by omega), zwr_nj (by decide), f2 1 (by omega), h1W d1]
      have m110 : M3 1 10 = G 122 := by rw [f3 1 (by omega), zwr_nj (by decide), f2 1 (by omega), h1E d1]
      have m111 : M3 1 11 = G 123 := by rw [f3 1 (by omega), zwr_nj (by decide), f2 1 (by omega), h1U d1]
      have m18 : M3 1 8 = G 120 - 1 := by rw [f3 1 (by omega), zwr_at]
      have last : Q (d + 3) 25 55 [zR 1, zI r, zI (G 121)] [] M3 = Rt (some (zI (G 120 - 1))) (zwr M3 1 10 (if G 122 = r then 0 else rn r (G 122))) := by
        rw [q_25_55, m19, if_pos (Int.le_refl _), m110]
        by_cases q : G 122 = r
        · rw [if_neg (fun z => z q), q_25_122, zwr_nj (by decide), m18, if_pos q]
        · rw [if_pos q, x_renum (by omega), Cb_I, q_25_122, zwr_nj (by decide), m18, if_neg q]
      have mo : ∀ b, (2 ≤ b ∧ b ≤ 6) → M3 b = M2 b := fun b hb => (f3 b (by omega)).trans (zwr_n (by omega))
      have m9 : M3 9 = M1 9 := ((f3 9 (by omega)).trans (zwr_n (by decide))).trans (f2 9 (by omega))
      refine ⟨_, last, fun b hb => ?_, ⟨?_, ?_, ?_, ?_⟩, fun s s0 s1 => ?_, fun c c0 c1 => ?_⟩
      · rw [zwr_n (by omega), f3 b (by omega), zwr_n (by omega), f2 b (by omega)]
        exact f1 b hb
      · rw [zwr_nj (by decide), m18, n0]
      · rw [zwr_nj (by decide), m19, n1]
      · rw [zwr_at, n2]
      · rw [zwr_nj (by decide), m111, n3]
      · rw [n0] at s1
        obtain ⟨t, t0, t1, o1, o2, o3, o4, o5⟩ := dr_r (G := G) hR ⟨s0, s1⟩ hr.1
        unfold dgR
        rw [o1, o2, o3, o4, o5, zwr_ne (by decide), zwr_ne (by decide), zwr_ne (by decide), zwr_ne (by decide), zwr_ne (by decide), mo (1 + 1) (by omega), mo (1 + 2) (by omega), mo (1 + 3) (by omega), mo (1 + 4) (by omega), mo (1 + 5) (by omega)]
        by_cases q : s < r
        · rw [if_pos q] at t1
          rw [t1]
          exact b2 s s0 (by omega) (by omega)
        · rw [if_neg q] at t1
          rw [t1]
          exact a2 s (by omega) (by omega)
      · rw [n1] at c1
        obtain ⟨o1, o2, o3⟩ := dr_c (G := G) (r := r) hR hW.2 ⟨c0, c1⟩
        unfold dgC
        rw [o1, o2, o3, zwr_ne (by decide), zwr_ne (by decide), zwr_ne (by decide)]
        refine ⟨(a3 c c0 c1).1, (a3 c c0 c1).2, ?_⟩
        show M3 9 c = _
        rw [m9]
        exact h1l d1 ⟨c0, c1⟩
end
