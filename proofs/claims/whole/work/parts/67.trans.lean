/-! walks: a step from a room with keys -/
def hb (x j : Int) : Prop := zand (zshr x j) 1 ≠ 0
theorem ST_hb {x : Int} (h : 0 ≤ x ∧ x < 64) : ST x (hb x) := by
  obtain ⟨n, rfl⟩ := Int.eq_ofNat_of_zero_le h.1
  have k : ST (n : Int) (fun i => n.testBit i.toNat = true) := ⟨n, rfl, by omega, fun i hi => Iff.rfl⟩
  refine ST_cg k (fun i i0 i1 => ?_)
  unfold hb
  rw [ST_at k ⟨i0, i1⟩]
  exact bI_n0.symm
theorem zor6 {x y : Int} (hx : 0 ≤ x ∧ x < 64) (hy : 0 ≤ y ∧ y < 64) : (0 ≤ zor x y ∧ zor x y < 64) ∧ zor x y = zor y x := by
  obtain ⟨n, rfl⟩ := Int.eq_ofNat_of_zero_le hx.1
  obtain ⟨m, rfl⟩ := Int.eq_ofNat_of_zero_le hy.1
  rw [zor_nat (by omega) (by omega), zor_nat (by omega) (by omega)]
  have := Nat.or_lt_two_pow (n := 6) (show n < 2 ^ 6 by omega) (show m < 2 ^ 6 by omega)
  exact ⟨by omega, by rw [Nat.or_comm]⟩
theorem zor_0 {x : Int} (hx : 0 ≤ x ∧ x < 64) : zor x 0 = x := by
  obtain ⟨n, rfl⟩ := Int.eq_ofNat_of_zero_le hx.1
  have := zor_nat (a := n) (b := 0) (by omega) (by decide)
  rw [Nat.or_zero] at this
  exact this
theorem zshl6 : ∀ i : Fin 6, 0 ≤ zshl 1 ((i : Nat) : Int) ∧ zshl 1 ((i : Nat) : Int) < 64 := by decide +kernel
theorem kb6 {g : Int → Int} {r : Int} (hk : -1 ≤ gK g r ∧ gK g r ≤ 5) : 0 ≤ kb g r ∧ kb g r < 64 := by
  unfold kb
  by_cases h : gK g r < 0
  · rw [if_pos h]
    decide
  · rw [if_neg h]
    have := zshl6 ⟨(gK g r).toNat, by omega⟩
    dsimp only at this
    rw [Int.toNat_of_nonneg (by omega)] at this
    exact this
def oth (g : Int → Int) (a c : Int) : Int := if gA g c = a then gB g c else gA g c
noncomputable def thr (g : Int → Int) (s c : Int) : Int := if gA g c = s / 64 ∨ gB g c = s / 64 then (if gL g c = -1 then 64 * oth g (s / 64) c + zor (s % 64) (kb g (oth g (s / 64) c)) else if zand (zshr (s % 64) (gL g c)) 1 ≠ 0 then 64 * oth g (s / 64) c + zor (s % 64) (kb g (oth g (s / 64) c)) else -1) else -1
noncomputable def tr (g : Int → Int) (s r : Int) : Int := if wayF g (s / 64) r = -1 then -1 else thr g s (wayF g (s / 64) r)
section
variable {d : Nat} {M : ZM} {g : Int → Int}
theorem oth_rg (hw : WF g) {a c : Int} (hc : 0 ≤ c ∧ c < g 121) : 0 ≤ oth g a c ∧ oth g a c < g 120 := by
  have := wf_ab hw hc
  unfold oth
  split <;> omega
theorem thr_rg (hw : WF g) {s c : Int} (hs : 0 ≤ s) (hc : 0 ≤ c ∧ c < g 121) : thr g s c = -1 ∨ ((0 ≤ thr g s c ∧ thr g s c < 64 * g 120) ∧ thr g s c / 64 = oth g (s / 64) c) := by
  have o := oth_rg hw (a := s / 64) hc
  have k := kb6 (wf_k hw o)
  have z := (zor6 (x := s % 64) (by omega) k).1
  have main : (0 ≤ 64 * oth g (s / 64) c + zor (s % 64) (kb g (oth g (s / 64) c)) ∧ 64 * oth g (s / 64) c + zor (s % 64) (kb g (oth g (s / 64) c)) < 64 * g 120) ∧ (64 * oth g (s / 64) c + zor (s % 64) (kb g (oth g (s / 64) c))) / 64 = oth g (s / 64) c := by omega
  unfold thr
  split
  · split
    · exact Or.inr main
    · split
      · exact Or.inr main
      · exact Or.inl rfl
  · exact Or.inl rfl
theorem m_through {s c : Int} (hw : WF (M 139)) (hs : 0 ≤ s ∧ s < 768) (hc : 0 ≤ c ∧ c < M 139 121) : E (d + 3) 234 [zR 138, zI s, zI c] M = Rt (some (zI (thr (M 139) s c))) M := by
  have hR := wf_R hw
  have hW := wf_W hw
  have o := oth_rg hw (a := s / 64) hc
  have k := kb6 (wf_k hw o)
  have z := (zor6 (x := s % 64) (by omega) k).1
  have hl := wf_l hw hc
  have ab := wf_ab hw hc
  rw [en_234, q_234_0, Int.tdiv_eq_ediv_of_nonneg hs.1, Int.tmod_eq_emod_of_nonneg hs.1, zw_id (x := s / 64) (by omega), m_a (by omega), Cb_I, q_234_17]
  -- the corridor can be used
  have at63 : thr (M 139) s c = 64 * oth (M 139) (s / 64) c + zor (s % 64) (kb (M 139) (oth (M 139) (s / 64) c)) → Q (d + 2) 234 63 [zR 138, zI s, zI c, zI (s % 64), zI (s / 64), zU] [zI (gA (M 139) c)] M = Rt (some (zI (thr (M 139) s c))) M := by
    intro e
    have at83 : Q (d + 2) 234 83 [zR 138, zI s, zI c, zI (s % 64), zI (s / 64), zU] [zI (oth (M 139) (s / 64) c)] M = Rt (some (zI (thr (M 139) s c))) M := by
      rw [q_234_83, m_keyBit (by omega), Cb_I]
      show Q (d + 2) 234 97 _ [zI (kb (M 139) (oth (M 139) (s / 64) c)), _, _] _ = _
      rw [q_234_97, zw_id (x := 64 * oth (M 139) (s / 64) c) (by omega), zw_id (by omega), e]
    rw [q_234_63]
    by_cases a : gA (M 139) c = s / 64
    · have e2 : oth (M 139) (s / 64) c = gB (M 139) c := if_pos a
      rw [if_neg (fun q => q a), m_b (by omega), Cb_I, q_234_74, ← e2]
      exact at83
    · have e2 : oth (M 139) (s / 64) c = gA (M 139) c := if_neg a
      rw [if_pos a, m_a (by omega), Cb_I, ← e2]
      exact at83
  have at39 : (gA (M 139) c = s / 64 ∨ gB (M 139) c = s / 64) → Q (d + 2) 234 39 [zR 138, zI s, zI c, zI (s % 64), zI (s / 64), zU] [zI (gL (M 139) c)] M = Rt (some (zI (thr (M 139) s c))) M := by
    intro u
    rw [q_234_39]
    by_cases l : gL (M 139) c = -1
    · rw [if_pos (by omega), m_a (by omega), Cb_I]
      exact at63 (by unfold thr; rw [if_pos u, if_pos l])
    · rw [if_neg (by omega), m_l (by omega), Cb_I, q_234_49]
      by_cases b : zand (zshr (s % 64) (gL (M 139) c)) 1 ≠ 0
      · rw [if_pos b, m_a (by omega), Cb_I]
        exact at63 (by unfold thr; rw [if_pos u, if_neg l, if_pos b])
      · rw [if_neg b]
        unfold thr
        rw [if_pos u, if_neg l, if_neg b]
  by_cases a : gA (M 139) c = s / 64
  · rw [if_pos a, m_l (by omega), Cb_I]
    exact at39 (Or.inl a)
  · rw [if_neg a, m_b (by omega), Cb_I, q_234_28]
    by_cases b : gB (M 139) c = s / 64
    · rw [if_neg (fun q => q b), m_l (by omega), Cb_I]
      exact at39 (Or.inr b)
    · rw [if_pos b]
      unfold thr
      rw [if_neg (not_or.2 ⟨a, b⟩)]
theorem wayF_c (hw : WF g) {a b : Int} (h : wayF g a b ≠ -1) : (0 ≤ wayF g a b ∧ wayF g a b < g 121) ∧ isW g a b (wayF g a b) := by
  rcases fs_sp (p := isW g a b) (wf_W hw).1 with k | k
  · exact absurd k.1 h
  · exact ⟨k.1, k.2.1⟩
theorem isW_oth (hw : WF g) {a b c : Int} (hc : 0 ≤ c ∧ c < g 121) (h : isW g a b c) : oth g a c = b := by
  have := wf_ab hw hc
  unfold isW at h
  unfold oth
  split <;> omega
theorem m_after {s r : Int} (hw : WF (M 139)) (hs : 0 ≤ s ∧ s < 768) : E (d + 4) 235 [zR 138, zI s, zI r] M = Rt (some (zI (tr (M 139) s r))) M := by
  have hW := wf_W hw
  rw [en_235, q_235_0, Int.tdiv_eq_ediv_of_nonneg hs.1, zw_id (x := s / 64) (by omega), m_wayBetween hW, Cb_I, q_235_9]
  unfold tr
  by_cases k : wayF (M 139) (s / 64) r = -1
  · rw [if_neg (fun q => q k), q_235_25, if_pos k]
  · rw [if_pos k, m_through hw hs (wayF_c hw k).1, Cb_I, q_235_25, if_neg k]
/-- where a walk begins -/
noncomputable def bgn (g : Int → Int) : Int := 64 * g 122 + kb g (g 122)
theorem bgn_rg (hw : WF g) (h : 0 < g 120) : (0 ≤ bgn g ∧ bgn g < 64 * g 120) ∧ bgn g / 64 = g 122 := by
  have hE := wf_E hw
  have k := kb6 (wf_k hw (r := g 122) (by omega))
  unfold bgn
  omega
theorem m_begin (hw : WF (M 139)) (h : 0 < M 139 120) : E (d + 3) 236 [zR 138] M = Rt (some (zI (bgn (M 139)))) M := by
  have hE := wf_E hw
  have hR := wf_R hw
  have k := kb6 (wf_k hw (r := M 139 122) (by omega))
  rw [en_236, q_236_0, m_keyBit (by omega), Cb_I]
  show Q (d + 2) 236 21 _ [zI (kb (M 139) (M 139 122)), _] _ = _
  rw [q_236_21, zw_id (x := 64 * M 139 122) (by omega), zw_id (by omega)]
  rfl
theorem tr_T (hw : WF g) : wT (tr g) (g 120) := by
  intro s r s0 s1 r0 r1
  unfold tr
  by_cases k : wayF g (s / 64) r = -1
  · exact Or.inl (if_pos k)
  · rw [if_neg k]
    obtain ⟨c1, c2⟩ := wayF_c hw k
    rcases thr_rg hw s0 c1 with e | e
    · exact Or.inl e
    · exact Or.inr ⟨e.1, by rw [e.2]; exact isW_oth hw c1 c2⟩
/-- through a corridor: by its other room -/
theorem thr_tr (hw : WF g) {s c : Int} (hs : 0 ≤ s) (hc : 0 ≤ c ∧ c < g 121) (h : thr g s c ≠ -1) : (0 ≤ thr g s c / 64 ∧ thr g s c / 64 < g 120) ∧ tr g s (thr g s c / 64) = thr g s c := by
  have o := oth_rg hw (a := s / 64) hc
  have u := ((thr_rg hw hs hc).resolve_left h).2
  rw [u]
  refine ⟨o, ?_⟩
  have e : gA g c = s / 64 ∨ gB g c = s / 64 := by
    by_cases e : gA g c = s / 64 ∨ gB g c = s / 64
    · exact e
    · exact absurd (if_neg e) h
  have w : isW g (s / 64) (oth g (s / 64) c) c := by
    unfold isW oth
    split <;> omega
  have wa : wayF g (s / 64) (oth g (s / 64) c) = c := by
    refine fs_at hc w (fun j j0 j1 k => ?_)
    have a := wf_ab hw hc
    have b := wf_ab hw (c := j) (by omega)
    unfold isW at w k
    have := hw.2.2.2.2 j c j0 (by omega) hc.1 hc.2 (by omega) (by omega)
    omega
  unfold tr
  rw [wa, if_neg (by omega)]
theorem tr_thr (hw : WF g) {s r : Int} (h : tr g s r ≠ -1) : ∃ c, (0 ≤ c ∧ c < g 121) ∧ thr g s c = tr g s r := by
  unfold tr at h ⊢
  by_cases k : wayF g (s / 64) r = -1
  · exact absurd (if_pos k) h
  · rw [if_neg k]
    exact ⟨_, (wayF_c hw k).1, rfl⟩
end
