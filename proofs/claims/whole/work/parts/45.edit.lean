/-! changes of a dungeon: a new room, a new corridor, locks, keys, the entrance -/
/-- a change that both do alike: the answer v, the row g' behind it -/
def edt (b : Prop) (kx km : Nat) (as : List ZV) (g : Int → Int) : Prop := ∃ (v : Int) (g' : Int → Int), WF g' ∧ (v < 0 → v ≠ -104 → g' = g) ∧ (b → v ≠ -104) ∧ (∀ d M, dgr M 1 g → ∃ M', E (d + 8) kx (zR 1 :: as) M = Rt (some (zI v)) M' ∧ frr 1 9 M M' ∧ dgr M' 1 g') ∧ (∀ d M, M 139 = g → ∃ M', E (d + 8) km (zR 138 :: as) M = Rt (some (zI v)) M' ∧ fr1 139 M M' ∧ M' 139 = g')
section
variable {g : Int → Int}
theorem edt_no {b : Prop} {kx km : Nat} {as : List ZV} (hw : WF g) (v : Int) (h1 : ∀ d M, dgr M 1 g → E (d + 8) kx (zR 1 :: as) M = Rt (some (zI v)) M) (h2 : ∀ d M, M 139 = g → E (d + 8) km (zR 138 :: as) M = Rt (some (zI v)) M) (hv : v ≠ -104 := by decide) : edt b kx km as g := ⟨v, g, hw, fun _ _ => rfl, fun _ => hv, fun d M hd => ⟨M, h1 d M hd, frr_r, hd⟩, fun d M hg => ⟨M, h2 d M hg, fr1_r, hg⟩⟩
def lies (x y w h : Int) : Prop := (2 ≤ w ∧ w ≤ 12) ∧ (2 ≤ h ∧ h ≤ 12) ∧ (0 ≤ x ∧ x + w ≤ 24) ∧ 0 ≤ y ∧ y + h ≤ 16
def meetR (g : Int → Int) (x y w h r : Int) : Prop := (x < gX g r + gW g r ∧ gX g r < x + w) ∧ y < gY g r + gH g r ∧ gY g r < y + h
noncomputable def meets (g : Int → Int) (x y w h : Int) : Int := fs (meetR g x y w h) (g 120)
theorem x_lies {d : Nat} {M : ZM} (x y w h : Int) : E (d + 1) 18 [zI x, zI y, zI w, zI h] M = Rt (some (zI (bI (lies x y w h)))) M := by
  rw [en_18, q_18_0]
  unfold lies
  by_cases h1 : w < 2
  · rw [if_pos h1, q_18_26, bI_f (by omega)]
  · rw [if_neg h1]
    by_cases h2 : 12 < w
    · rw [if_pos h2, q_18_26, bI_f (by omega)]
    · rw [if_neg h2]
      by_cases h3 : h < 2
      · rw [if_pos h3, q_18_26, bI_f (by omega)]
      · rw [if_neg h3]
        by_cases h4 : 12 < h
        · rw [if_pos h4, q_18_26, bI_f (by omega)]
        · rw [if_neg h4, zw_id (x := 24 - w) (by omega), zw_id (x := 16 - h) (by omega)]
          by_cases h5 : x < 0
          · rw [if_pos h5, bI_f (by omega)]
          · rw [if_neg h5]
            by_cases h6 : 24 - w < x
            · rw [if_pos h6, bI_f (by omega)]
            · rw [if_neg h6]
              by_cases h7 : y < 0
              · rw [if_pos h7, bI_f (by omega)]
              · rw [if_neg h7]
                by_cases h8 : 16 - h < y
                · rw [if_pos h8, bI_f (by omega)]
                · rw [if_neg h8, bI_t (by omega)]
theorem x_meets {d : Nat} {M : ZM} {x y w h : Int} (hw : WF g) (hd : dgr M 1 g) (hl : lies x y w h) : E (d + 1) 19 [zR 1, zI x, zI y, zI w, zI h] M = Rt (some (zI (if meets g x y w h = -1 then 0 else 1))) M := by
  have hR := wf_R hw
  unfold lies at hl
  rw [en_19, q_19_0]
  refine lpi (fun i (s : ZV × ZV) => Q d 19 3 [zR 1, zI x, zI y, zI w, zI h, zI i, s.1, s.2] [] M) (fun o => o = _) (g 120) (fun i _ => ∀ j, 0 ≤ j → j < i → ¬ meetR g x y w h j) ?_ ?_ 0 (zU, zU) (by omega) (fun j j0 j1 => absurd j1 (by omega))
  · rintro i ⟨z6, z7⟩ i0 i1 no
    dsimp only
    have hr := wf_r hw ⟨i0, i1⟩
    unfold wfR at hr
    have hi : 0 ≤ i ∧ i < 12 := by omega
    have ext : ¬ meetR g x y w h i → ∀ j, 0 ≤ j → j < i + 1 → ¬ meetR g x y w h j := by
      intro k j j0 j1
      by_cases e : j = i
      · rw [e]; exact k
      · exact no j j0 (by omega)
    -- the rows of the room
    have at49 : ∀ s0 : Int, (s0 = 0 ∨ s0 = 1) → (s0 = 1 ↔ (x < gX g i + gW g i ∧ gX g i < x + w)) → ∀ z6 z7 : ZV, Q d 19 49 [zR 1, zI x, zI y, zI w, zI h, zI i, z6, z7] [zI s0] M = Rt (some (zI (if meets g x y w h = -1 then 0 else 1))) M ∨ ∃ s' : ZV × ZV, Q d 19 49 [zR 1, zI x, zI y, zI w, zI h, zI i, z6, z7] [zI s0] M = Q d 19 3 [zR 1, zI x, zI y, zI w, zI h, zI (i + 1), s'.1, s'.2] [] M ∧ ∀ j, 0 ≤ j → j < i + 1 → ¬ meetR g x y w h j := by
      intro s0 h01 hs z6 z7
      rw [q_19_49, if_pos hi, if_pos hi, if_pos hi, h1y hd ⟨i0, i1⟩, h1h hd ⟨i0, i1⟩, zw_id (x := gY g i + gH g i) (by omega), zw_id (x := y + h) (by omega), zw_id (x := i + 1) (by omega)]
      by_cases k1 : gY g i + gH g i ≤ y
      · refine Or.inr ⟨(zI s0, zI 0), ?_, ext (fun z => by unfold meetR at z; omega)⟩
        rw [if_pos k1]
        rcases h01 with e | e
        · rw [if_pos e]
        · rw [if_neg (by omega)]
      · rw [if_neg k1]
        by_cases k2 : y + h ≤ gY g i
        · refine Or.inr ⟨(zI s0, zI 0), ?_, ext (fun z => by unfold meetR at z; omega)⟩
          rw [if_pos k2]
          rcases h01 with e | e
          · rw [if_pos e]
          · rw [if_neg (by omega)]
        · rw [if_neg k2]
          rcases h01 with e | e
          · refine Or.inr ⟨(zI s0, zI 1), by rw [if_pos e], ext (fun z => ?_)⟩
            have := hs.2 z.1
            omega
          · refine Or.inl ?_
            have k : meets g x y w h = i := fs_at ⟨i0, i1⟩ ⟨hs.1 e, by omega⟩ no
            rw [if_neg (by omega), k, if_neg (by omega)]
    rw [q_19_3, h1R hd, if_neg (by omega), if_pos hi, if_pos hi, if_pos hi, h1x hd ⟨i0, i1⟩, h1w hd ⟨i0, i1⟩, zw_id (x := gX g i + gW g i) (by omega), zw_id (x := x + w) (by omega)]
    by_cases k1 : gX g i + gW g i ≤ x
    · rw [if_pos k1, q_19_48]
      exact at49 0 (Or.inl rfl) (by omega) z6 z7
    · rw [if_neg k1]
      by_cases k2 : x + w ≤ gX g i
      · rw [if_pos k2, q_19_48]
        exact at49 0 (Or.inl rfl) (by omega) z6 z7
      · rw [if_neg k2]
        exact at49 1 (Or.inr rfl) (by omega) z6 z7
  · rintro ⟨z6, z7⟩ no
    dsimp only
    have k : meets g x y w h = -1 := fs_no no
    rw [q_19_3, h1R hd, if_pos (Int.le_refl _), k, if_pos rfl]
def gAdd (g : Int → Int) (x y w h : Int) : Int → Int := up1 (up1 (up1 (up1 (up1 (up1 g (5 * g 120) x) (5 * g 120 + 1) y) (5 * g 120 + 2) w) (5 * g 120 + 3) h) (5 * g 120 + 4) (-1)) 120 (g 120 + 1)
theorem gAdd_o {x y w h i : Int} (h1 : i ≠ 120) (h2 : i < 5 * g 120 ∨ 5 * g 120 + 4 < i) : gAdd g x y w h i = g i := by
  unfold gAdd
  rw [up1_n h1, up1_n (by omega), up1_n (by omega), up1_n (by omega), up1_n (by omega), up1_n (by omega)]
theorem gAdd_n {x y w h : Int} (hR : 0 ≤ g 120 ∧ g 120 < 12) : gX (gAdd g x y w h) (g 120) = x ∧ gY (gAdd g x y w h) (g 120) = y ∧ gW (gAdd g x y w h) (g 120) = w ∧ gH (gAdd g x y w h) (g 120) = h ∧ gK (gAdd g x y w h) (g 120) = -1 ∧ gAdd g x y w h 120 = g 120 + 1 := by
  unfold gX gY gW gH gK gAdd up1
  refine ⟨?_, ?_, ?_, ?_, ?_, ?_⟩ <;> repeat (first | rw [if_pos (by omega)] | rw [if_neg (by omega)])
theorem gAdd_r {x y w h r : Int} (hR : 0 ≤ g 120 ∧ g 120 < 12) (hr : 0 ≤ r ∧ r < g 120) : gX (gAdd g x y w h) r = gX g r ∧ gY (gAdd g x y w h) r = gY g r ∧ gW (gAdd g x y w h) r = gW g r ∧ gH (gAdd g x y w h) r = gH g r ∧ gK (gAdd g x y w h) r = gK g r := by
  unfold gX gY gW gH gK
  refine ⟨gAdd_o ?_ ?_, gAdd_o ?_ ?_, gAdd_o ?_ ?_, gAdd_o ?_ ?_, gAdd_o ?_ ?_⟩ <;> omega
theorem gAdd_c {x y w h c : Int} (hR : 0 ≤ g 120 ∧ g 120 < 12) (hc : 0 ≤ c ∧ c < 20) : gA (gAdd g x y w h) c = gA g c ∧ gB (gAdd g x y w h) c = gB g c ∧ gL (gAdd g x y w h) c = gL g c := by
  unfold gA gB gL
  refine ⟨gAdd_o ?_ ?_, gAdd_o ?_ ?_, gAdd_o ?_ ?_⟩ <;> omega
theorem gAdd_WF {x y w h : Int} (hw : WF g) (hl : lies x y w h) (hm : meets g x y w h = -1) (hn : g 120 < 12) : WF (gAdd g x y w h) := by
  have hR := wf_R hw
  have hW := wf_W hw
  have hE := wf_E hw
  have hU := wf_U hw
  have hR' : 0 ≤ g 120 ∧ g 120 < 12 := ⟨hR.1, hn⟩
  obtain ⟨n1, n2, n3, n4, n5, n6⟩ := gAdd_n (g := g) (x := x) (y := y) (w := w) (h := h) hR'
  have e1 : gAdd g x y w h 121 = g 121 := gAdd_o (by omega) (by omega)
  have e2 : gAdd g x y w h 122 = g 122 := gAdd_o (by omega) (by omega)
  have e3 : gAdd g x y w h 123 = g 123 := gAdd_o (by omega) (by omega)
  have nm : ∀ r, 0 ≤ r → r < g 120 → ¬ meetR g x y w h r := by
    rcases fs_sp (p := meetR g x y w h) hR.1 with k | k
    · exact k.2
    · unfold meets at hm
      omega
  unfold lies at hl
  have rr : ∀ r, 0 ≤ r → r < g 120 + 1 → r = g 120 ∨ (0 ≤ r ∧ r < g 120) := fun r r0 r1 => by omega
  refine ⟨?_, ?_, ?_, ?_, ?_⟩
  · unfold wfN
    rw [n6, e1, e2, e3]
    omega
  · intro r r0 r1
    rw [n6] at r1
    unfold wfR
    rcases rr r r0 r1 with e | e
    · rw [e, n1, n2, n3, n4, n5]
      omega
    · obtain ⟨o1, o2, o3, o4, o5⟩ := gAdd_r (g := g) (x := x) (y := y) (w := w) (h := h) hR' e
      rw [o1, o2, o3, o4, o5]
      exact wf_r hw e
  · intro r s r0 r1 s0 s1 ne
    rw [n6] at r1 s1
    unfold wfP
    rcases rr r r0 r1 with e | e
    · rcases rr s s0 s1 with k | k
      · omega
      · obtain ⟨o1, o2, o3, o4, o5⟩ := gAdd_r (g := g) (x := x) (y := y) (w := w) (h := h) hR' k
        have := nm s k.1 k.2
        unfold meetR at this
        rw [e, n1, n2, n3, n4, o1, o2, o3, o4]
        omega
    · obtain ⟨o1, o2, o3, o4, o5⟩ := gAdd_r (g := g) (x := x) (y := y) (w := w) (h := h) hR' e
      rcases rr s s0 s1 with k | k
      · have := nm r e.1 e.2
        unfold meetR at this
        rw [k, n1, n2, n3, n4, o1, o2, o3, o4]
        omega
      · obtain ⟨p1, p2, p3, p4, p5⟩ := gAdd_r (g := g) (x := x) (y := y) (w := w) (h := h) hR' k
        rw [p1, p2, p3, p4, o1, o2, o3, o4]
        exact hw.2.2.1 r s e.1 e.2 k.1 k.2 ne
  · intro c c0 c1
    rw [e1] at c1
    obtain ⟨o1, o2, o3⟩ := gAdd_c (g := g) (x := x) (y := y) (w := w) (h := h) (c := c) hR' (by omega)
    have := wf_c hw ⟨c0, c1⟩
    unfold wfC at this ⊢
    rw [o1, o2, o3, n6]
    omega
  · intro c e c0 c1 e0 e1'
    rw [e1] at c1 e1'
    obtain ⟨o1, o2, o3⟩ := gAdd_c (g := g) (x := x) (y := y) (w := w) (h := h) (c := c) hR' (by omega)
    obtain ⟨p1, p2, p3⟩ := gAdd_c (g := g) (x := x) (y := y) (w := w) (h := h) (c := e) hR' (by omega)
    rw [o1, o2, p1, p2]
    exact hw.2.2.2.2 c e c0 c1 e0 e1'
theorem m_cells {d : Nat} {M : ZM} {x y w h : Int} (hw : WF (M 139)) (hl : lies x y w h) {z6 : ZV} : Q (d + 2) 166 52 [zR 138, zI x, zI y, zI w, zI h, zI x, z6] [] M = Rt (some (zI (-106))) M ∧ meets (M 139) x y w h ≠ -1 ∨ meets (M 139) x y w h = -1 ∧ ∃ z, Q (d + 2) 166 52 [zR 138, zI x, zI y, zI w, zI h, zI x, z6] [] M = Q (d + 2) 166 52 [zR 138, zI x, zI y, zI w, zI h, zI (x + w), z] [] M := by
  have hR := wf_R hw
  have hl' := hl
  unfold lies at hl'
  have hit : ∀ a b, x ≤ a → a < x + w → y ≤ b → b < y + h → rAt (M 139) a b ≠ -1 → meets (M 139) x y w h ≠ -1 := by
    intro a b a0 a1 b0 b1 k
    rcases fs_sp (p := inR (M 139) a b) hR.1 with l | ⟨l1, l2, l3⟩
    · exact absurd l.1 k
    · rcases fs_sp (p := meetR (M 139) x y w h) hR.1 with m | ⟨m1, m2, m3⟩
      · refine absurd ?_ (m.2 _ l1.1 l1.2)
        generalize fs (inR (M 139) a b) (M 139 120) = q at *
        unfold inR at l2
        unfold meetR
        omega
      · unfold meets
        omega
  refine lpi (fun a (s : ZV) => Q (d + 2) 166 52 [zR 138, zI x, zI y, zI w, zI h, zI (x + a), s] [] M) (fun o => o = Rt (some (zI (-106))) M ∧ meets (M 139) x y w h ≠ -1 ∨ meets (M 139) x y w h = -1 ∧ ∃ z, o = Q (d + 2) 166 52 [zR 138, zI x, zI y, zI w, zI h, zI (x + w), z] [] M) w (fun a _ => ∀ p q, x ≤ p → p < x + a → y ≤ q → q < y + h → rAt (M 139) p q = -1) ?_ ?_ 0 z6 (by omega) (fun p q p0 p1 => absurd p1 (by omega)) |> fun z => ?_
  · rw [Int.add_zero] at z
    exact z
  · intro a z a0 a1 no
    rw [q_166_52, zw_id (x := x + w) (by omega), if_neg (by omega)]
    refine lpi (fun b (_ : Unit) => Q (d + 2) 166 63 [zR 138, zI x, zI y, zI w, zI h, zI (x + a), zI (y + b)] [] M) (fun o => (o = Rt (some (zI (-106))) M ∧ meets (M 139) x y w h ≠ -1 ∨ meets (M 139) x y w h = -1 ∧ ∃ z, o = Q (d + 2) 166 52 [zR 138, zI x, zI y, zI w, zI h, zI (x + w), z] [] M) ∨ ∃ s', o = Q (d + 2) 166 52 [zR 138, zI x, zI y, zI w, zI h, zI (x + (a + 1)), s'] [] M ∧ ∀ p q, x ≤ p → p < x + (a + 1) → y ≤ q → q < y + h → rAt (M 139) p q = -1) h (fun b _ => ∀ q, y ≤ q → q < y + b → rAt (M 139) (x + a) q = -1) ?_ ?_ 0 () (by omega) (fun q q0 q1 => absurd q1 (by omega)) |> fun z => ?_
    · rw [Int.add_zero] at z
      exact z
    · intro b _ b0 b1 no2
      have rg := rAt_rg hw (x + a) (y + b)
      rw [q_166_63, zw_id (x := y + h) (by omega), if_neg (by omega), m_roomAt hw (by omega) (by omega), Cb_I, q_166_80]
      by_cases k : rAt (M 139) (x + a) (y + b) = -1
      · refine Or.inr ⟨(), by rw [if_pos (by omega), zw_id (by omega), Int.add_assoc], fun q q0 q1 => ?_⟩
        by_cases e : q = y + b
        · rw [e]; exact k
        · exact no2 q q0 (by omega)
      · exact Or.inl (Or.inl (Or.inl ⟨by rw [if_neg (by omega)], hit _ _ (by omega) (by omega) (by omega) (by omega) k⟩))
    · intro _ no2
      refine Or.inr ⟨zI (y + h), by rw [q_166_63, zw_id (x := y + h) (by omega), if_pos (by omega), zw_id (by omega), Int.add_assoc], fun p q p0 p1 q0 q1 => ?_⟩
      by_cases e : p = x + a
      · rw [e]; exact no2 q q0 q1
      · exact no p q p0 (by omega) q0 q1
  · intro z no
    refine Or.inr ⟨fs_no (fun r r0 r1 k => ?_), z, rfl⟩
    have hr := wf_r hw ⟨r0, r1⟩
    unfold wfR at hr
    unfold meetR at k
    have key : ∀ p q, x ≤ p → p < x + w → y ≤ q → q < y + h → ¬ inR (M 139) p q r := by
      intro p q p0 p1 q0 q1 l
      have := no p q p0 p1 q0 q1
      rcases fs_sp (p := inR (M 139) p q) hR.1 with m | m
      · exact m.2 r r0 r1 l
      · unfold rAt at this
        omega
    unfold inR at key
    by_cases c1 : x ≤ gX (M 139) r
    · by_cases c2 : y ≤ gY (M 139) r
      · exact key (gX (M 139) r) (gY (M 139) r) (by omega) (by omega) (by omega) (by omega) (by omega)
      · exact key (gX (M 139) r) y (by omega) (by omega) (by omega) (by omega) (by omega)
    · by_cases c2 : y ≤ gY (M 139) r
      · exact key x (gY (M 139) r) (by omega) (by omega) (by omega) (by omega) (by omega)
      · exact key x y (by omega) (by omega) (by omega) (by omega) (by omega)
theorem e_room (hw : WF g) (x y w h : Int) : edt True 17 166 [zI x, zI y, zI w, zI h] g := by
  have hR := wf_R hw
  by_cases hl : lies x y w h
  · have hl' := hl
    unfold lies at hl'
    have ex : ∀ d M, dgr M 1 g → E (d + 8) 17 [zR 1, zI x, zI y, zI w, zI h] M = Q (d + 7) 17 23 [zR 1, zI x, zI y, zI w, zI h] [zI (if meets g x y w h = -1 then 0 else 1)] M := by
      intro d M hd
      rw [en_17, q_17_0, x_lies, Cb_I, q_17_8, if_pos (bI_n0.2 hl), x_meets hw hd hl, Cb_I]
    have em : ∀ d M, M 139 = g → E (d + 8) 166 [zR 138, zI x, zI y, zI w, zI h] M = Q (d + 7) 166 52 [zR 138, zI x, zI y, zI w, zI h, zI x, zU] [] M := by
      intro d M hg
      rw [en_166, q_166_0, m_in, Cb_I, q_166_7, if_neg (bI_n0.2 hl'.1), m_in, Cb_I, q_166_18, if_neg (bI_n0.2 hl'.2.1), zw_id (x := 24 - w) (by omega), m_in, Cb_I, q_166_30, if_neg (bI_n0.2 (by omega)), zw_id (x := 16 - h) (by omega), m_in, Cb_I, q_166_43, if_pos (bI_n0.2 (by omega))]
    by_cases hm : meets g x y w h = -1
    · rw [hm, if_pos rfl] at ex
      have em' : ∀ d M, M 139 = g → ∃ z, E (d + 8) 166 [zR 138, zI x, zI y, zI w, zI h] M = Q (d + 7) 166 52 [zR 138, zI x, zI y, zI w, zI h, zI (x + w), z] [] M := by
        intro d M hg
        rcases m_cells (d := d + 5) (M := M) (z6 := zU) (by rw [hg]; exact hw) hl with k | ⟨_, z, k⟩
        · rw [hg] at k
          exact absurd hm k.2
        · exact ⟨z, (em d M hg).trans k⟩
      by_cases hn : g 120 = 12
      · refine edt_no hw (-103) (fun d M hd => ?_) (fun d M hg => ?_)
        · rw [ex d M hd, q_17_23, if_pos rfl, h1R hd, if_neg (by omega)]
        · obtain ⟨z, e⟩ := em' d M hg
          rw [e, q_166_52, zw_id (x := x + w) (by omega), if_pos (Int.le_refl _), hg, if_neg (fun q => q hn)]
      · have hR' : 0 ≤ g 120 ∧ g 120 < 12 := by omega
        obtain ⟨n1, n2, n3, n4, n5, n6⟩ := gAdd_n (g := g) (x := x) (y := y) (w := w) (h := h) hR'
        refine ⟨g 120, gAdd g x y w h, gAdd_WF hw hl hm hR'.2, fun z => by omega, fun _ => by omega, fun d M hd => ?_, fun d M hg => ?_⟩
        · refine ⟨zwr (zwr (zwr (zwr (zwr (zwr M 2 (g 120) x) 3 (g 120) y) 4 (g 120) w) 5 (g 120) h) 6 (g 120) (-1)) 1 8 (g 120 + 1), ?_, ?_, ?_⟩
          · rw [ex d M hd, q_17_23, if_pos rfl]
            simp only [zwr_ne (show (1 : Nat) ≠ 2 by decide), zwr_ne (show (1 : Nat) ≠ 3 by decide), zwr_ne (show (1 : Nat) ≠ 4 by decide), zwr_ne (show (1 : Nat) ≠ 5 by decide), zwr_ne (show (1 : Nat) ≠ 6 by decide), zwr_at, h1R hd]
            rw [if_pos (by omega), if_pos hR', if_pos hR', if_pos hR', if_pos hR', if_pos hR', zw_id (x := g 120 + 1) (by omega), zw_id (by omega), show g 120 + 1 - 1 = g 120 by omega]
          · intro b hb
            rw [zwr_n (by omega), zwr_n (by omega), zwr_n (by omega), zwr_n (by omega), zwr_n (by omega), zwr_n (by omega)]
          · refine ⟨⟨?_, ?_, ?_, ?_⟩, fun r r0 r1 => ?_, fun c c0 c1 => ?_⟩
            · rw [zwr_at, n6]
            · rw [zwr_nj (by decide), zwr_ne (by decide), zwr_ne (by decide), zwr_ne (by decide), zwr_ne (by decide), zwr_ne (by decide), h1W hd, gAdd_o (by omega) (by omega)]
            · rw [zwr_nj (by decide), zwr_ne (by decide), zwr_ne (by decide), zwr_ne (by decide), zwr_ne (by decide), zwr_ne (by decide), h1E hd, gAdd_o (by omega) (by omega)]
            · rw [zwr_nj (by decide), zwr_ne (by decide), zwr_ne (by decide), zwr_ne (by decide), zwr_ne (by decide), zwr_ne (by decide), h1U hd, gAdd_o (by omega) (by omega)]
            · rw [n6] at r1
              unfold dgR
              rw [zwr_ne (by decide), zwr_ne (by decide), zwr_ne (by decide), zwr_ne (by decide), zwr_ne (by decide), zwr_ne (show (1 + 2 : Nat) ≠ 1 by decide), zwr_ne (show (1 + 2 : Nat) ≠ 6 by decide), zwr_ne (show (1 + 2 : Nat) ≠ 5 by decide), zwr_ne (show (1 + 2 : Nat) ≠ 4 by decide), zwr_ne (show (1 + 3 : Nat) ≠ 1 by decide), zwr_ne (show (1 + 3 : Nat) ≠ 6 by decide), zwr_ne (show (1 + 3 : Nat) ≠ 5 by decide), zwr_ne (show (1 + 4 : Nat) ≠ 1 by decide), zwr_ne (show (1 + 4 : Nat) ≠ 6 by decide), zwr_ne (show (1 + 5 : Nat) ≠ 1 by decide)]
              by_cases e : r = g 120
              · rw [e, n1, n2, n3, n4, n5]
                exact ⟨zwr_at, zwr_at, zwr_at, zwr_at, zwr_at⟩
              · obtain ⟨o1, o2, o3, o4, o5⟩ := gAdd_r (g := g) (x := x) (y := y) (w := w) (h := h) (r := r) hR' (by omega)
                rw [o1, o2, o3, o4, o5]
                simp only [zwr_nj e]
                exact hd.2.1 r r0 (by omega)
            · have wW := wf_W hw
              rw [gAdd_o (by omega) (by omega)] at c1
              obtain ⟨o1, o2, o3⟩ := gAdd_c (g := g) (x := x) (y := y) (w := w) (h := h) (c := c) hR' (by omega)
              have k := hd.2.2 c c0 c1
              unfold dgC at k ⊢
              rw [o1, o2, o3]
              refine ⟨?_, ?_, ?_⟩
              · rw [zwr_ne (by decide), zwr_ne (by decide), zwr_ne (by decide), zwr_ne (by decide), zwr_ne (by decide), zwr_ne (by decide)]
                exact k.1
              · rw [zwr_ne (by decide), zwr_ne (by decide), zwr_ne (by decide), zwr_ne (by decide), zwr_ne (by decide), zwr_ne (by decide)]
                exact k.2.1
              · rw [zwr_ne (by decide), zwr_ne (by decide), zwr_ne (by decide), zwr_ne (by decide), zwr_ne (by decide), zwr_ne (by decide)]
                exact k.2.2
        · obtain ⟨z, e⟩ := em' d M hg
          have z0 : zw (0 + zw (5 * g 120)) = 5 * g 120 := by unfold zw; omega
          have z1 : zw (5 * g 120 + 1) = 5 * g 120 + 1 := zw_id (by omega)
          have z2 : zw (5 * g 120 + 2) = 5 * g 120 + 2 := zw_id (by omega)
          have z3 : zw (5 * g 120 + 3) = 5 * g 120 + 3 := zw_id (by omega)
          have z4 : zw (5 * g 120 + 4) = 5 * g 120 + 4 := zw_id (by omega)
          refine ⟨zwr (zwr (zwr (zwr (zwr (zwr M 139 (5 * g 120) x) 139 (5 * g 120 + 1) y) 139 (5 * g 120 + 2) w) 139 (5 * g 120 + 3) h) 139 (5 * g 120 + 4) (-1)) 139 120 (g 120 + 1), ?_, ?_, ?_⟩
          · rw [e, q_166_52, zw_id (x := x + w) (by omega), if_pos (Int.le_refl _)]
            simp only [hg, z0, z1, z2, z3, z4, zwr_at, zwr_nj (show (120 : Int) ≠ 5 * g 120 by omega), zwr_nj (show (120 : Int) ≠ 5 * g 120 + 1 by omega), zwr_nj (show (120 : Int) ≠ 5 * g 120 + 2 by omega), zwr_nj (show (120 : Int) ≠ 5 * g 120 + 3 by omega), zwr_nj (show (120 : Int) ≠ 5 * g 120 + 4 by omega)]
            rw [if_pos hn, if_pos (by omega), if_pos (by omega), if_pos (by omega), if_pos (by omega), if_pos (by omega), zw_id (x := g 120 + 1) (by omega), zw_id (by omega), show g 120 + 1 - 1 = g 120 by omega]
          · exact fr1_w (fr1_w (fr1_w (fr1_w (fr1_w (fr1_w fr1_r)))))
          · rw [zwr_u, zwr_u, zwr_u, zwr_u, zwr_u, zwr_u, hg]
            rfl
    · rw [if_neg hm] at ex
      refine edt_no hw (-106) (fun d M hd => ?_) (fun d M hg => ?_)
      · rw [ex d M hd, q_17_23, if_neg (by omega)]
      · rcases m_cells (d := d + 5) (M := M) (z6 := zU) (by rw [hg]; exact hw) hl with k | ⟨k, _⟩
        · exact (em d M hg).trans k.1
        · rw [hg] at k
          exact absurd k hm
  · refine edt_no hw (-102) (fun d M hd => ?_) (fun d M hg => ?_)
    · rw [en_17, q_17_0, x_lies, Cb_I, q_17_8, if_neg (fun q => q (bI_0.2 hl))]
    · unfold lies at hl
      rw [en_166, q_166_0, m_in, Cb_I, q_166_7]
      by_cases h1 : 2 ≤ w ∧ w ≤ 12
      · rw [if_neg (bI_n0.2 h1), m_in, Cb_I, q_166_18]
        by_cases h2 : 2 ≤ h ∧ h ≤ 12
        · rw [if_neg (bI_n0.2 h2), zw_id (x := 24 - w) (by omega), m_in, Cb_I, q_166_30]
          by_cases h3 : 0 ≤ x ∧ x ≤ 24 - w
          · rw [if_neg (bI_n0.2 h3), zw_id (x := 16 - h) (by omega), m_in, Cb_I, q_166_43, if_neg (fun q => q (bI_0.2 (by omega)))]
          · rw [if_pos (bI_0.2 h3)]
        · rw [if_pos (bI_0.2 h2)]
      · rw [if_pos (bI_0.2 h1)]
end
