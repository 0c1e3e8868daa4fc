/-! the law: the script, both objects -/
theorem zkn_sc : zkn SH zSC = 99 := by decide +kernel
section
variable {d k pc n : Nat} {ls st : List ZV} {M : ZM}
theorem s_sld {i : Int} (hf : zft k pc = some (n, .iaload)) (h : 0 ≤ i ∧ i < M zSC (-1) - 1) : Q d k pc ls (zI i :: zR zSC :: st) M = Q d k (pc + n) ls (zI (M zSC i) :: st) M := s_x hf rfl rfl (by
  have z : ¬ (zkn SH zSC = 20 ∧ 0 ≤ i ∧ i < (zln SH zSC : Int)) := fun q => by
    rw [zkn_sc] at q
    exact absurd q.1 (by decide)
  unfold zex
  dsimp only
  unfold zald
  dsimp only
  rw [if_neg z]
  unfold zsld
  dsimp only
  rw [if_pos rfl, if_pos h])
theorem s_slen (hf : zft k pc = some (n, .arraylength)) (h : 1 ≤ M zSC (-1)) : Q d k pc ls (zR zSC :: st) M = Q d k (pc + n) ls (zI (M zSC (-1) - 1) :: st) M := s_x hf rfl rfl (by
  unfold zex
  dsimp only
  unfold zalen
  dsimp only
  rw [if_pos rfl, if_pos h])
end
section
variable {cal : Nat → List ZV → ZH → ZO} {k pc n : Nat} {ls st : List ZV} {h : ZH}
theorem g_x {i : Instr} {pc' : Nat} {ls' st' : List ZV} {h' : ZH} (hf : zft k pc = some (n, i)) (hr : zret k i st = none) (hc : zcal (zown k) i = none) (he : zex (zown k) i pc n ls st h = some (pc', ls', st', h')) : zrun cal k pc ls st h = zrun cal k pc' ls' st' h' := by
  rw [zrun_eq]
  unfold zgo
  rw [hf]
  dsimp only
  rw [hr]
  dsimp only
  rw [hc]
  dsimp only
  rw [he]
  rfl
theorem g_call {i : Instr} {k' kd : Nat} {g : ZH} (as rest : List ZV) (hf : zft k pc = some (n, i)) (hr : zret k i st = none) (hc : zcal (zown k) i = some (k', kd)) (hs : st = as.reverse ++ rest) (hn : as.length = znA k') (h8 : (rest.map zct).sum ≤ 8) (hv : zrcv k' kd as h = true) (e : cal k' as h = some (none, g)) : zrun cal k pc ls st h = zrun cal k (pc + n) ls rest g := by
  have e1 : (st.take (znA k')).reverse = as := by
    rw [hs, List.take_append_of_le_length (by rw [List.length_reverse]; omega), List.take_of_length_le (by rw [List.length_reverse]; omega), List.reverse_reverse]
  have e2 : st.drop (znA k') = rest := by
    rw [hs, ← hn, ← List.length_reverse, List.drop_left]
  rw [zrun_eq]
  unfold zgo
  rw [hf]
  dsimp only
  rw [hr]
  dsimp only
  rw [hc]
  dsimp only
  rw [e1, e2, if_pos ⟨by rw [hs, List.length_append, List.length_reverse]; omega, h8, hv⟩, e]
  rfl
end
theorem g_new {cal : Nat → List ZV → ZH → ZO} {k pc n x ci w : Nat} {ls st : List ZV} {h : ZH} (hf : zft k pc = some (n, .new x)) (hl : zNl.lookup (zky (zown k) x) = some ci) (hk : (zFk.getD ci []).length = w) (hh : h.1.length < 2000) : zrun cal k pc ls st h = zrun cal k (pc + n) ls (zR h.1.length :: st) (h.1 ++ [(ci, w, List.replicate w 0)], zzr h.2 h.1.length 0) := g_x hf rfl rfl (by
  show (zNl.lookup (zky (zown k) x)).bind (fun ci => znew ci (pc + n) ls st h) = _
  rw [hl]
  show znew ci (pc + n) ls st h = _
  unfold znew
  rw [if_neg (by omega), hk])
theorem zevl_up {d : Nat} (e : Nat) {k : Nat} {as : List ZV} {h : ZH} {r : Option ZV × ZH} (q : zevl d k as h = some r) : zevl (d + e) k as h = some r := by
  induction e with
  | zero => exact q
  | succ e ih => exact zevl_succ _ _ _ _ _ ih
theorem zinv_add {s : ZS} {M : ZM} {c : Nat × Nat × List Nat} {a : Nat} (h : zinv (s, M)) (hl : s.length < 2000) (hc : zcok c) : zinv (s ++ [c], zzr M a 0) := by
  obtain ⟨h1, h2, h3⟩ := h
  refine ⟨fun x hx => ?_, fun b i => ?_, ?_⟩
  · rcases List.mem_append.mp hx with m | m
    · exact h1 x m
    · rw [List.mem_singleton.mp m]
      exact hc
  · show zrg (zzr M a 0 b i)
    unfold zzr
    split
    · exact zrg_0
    · exact h2 b i
  · show (s ++ [c]).length ≤ 3000
    rw [List.length_append]
    show s.length + 1 ≤ 3000
    omega
theorem zbf_l {a : Nat} {j : Int} (h : (a, j) ∈ ([(0, 9), (1, 8), (1, 9), (1, 10), (1, 11), (19, 1), (19, 2), (84, 4), (84, 5), (84, 6), (138, 2), (138, 4), (138, 6), (138, 8), (138, 10), (138, 12), (138, 15), (138, 17), (138, 19), (138, 20), (139, 120), (139, 121), (139, 122), (139, 123)] : List (Nat × Int))) : zbf a j = 0 := of_decide_eq_true (List.all_eq_true.mp zbf_ok (a, j) h)
theorem zbm_run {Mx : ZM} (bx : zbx = some (none, (SH.take 138, Mx))) : ∃ Mf, zevn 400 4 152 [zR (SH.take 138).length] (SH.take 138 ++ [(10, 25, List.replicate 25 0)], zzr Mx (SH.take 138).length 0) = some (none, (SH, Mf)) ∧ ∀ a j, Mf a j = zbf a j := by
  obtain ⟨Mf, bm, vals⟩ := zbm_some
  refine ⟨Mf, ?_, vals⟩
  obtain ⟨r, h1, h2⟩ := Option.bind_eq_some_iff.mp bm
  have e : r = (none, (SH.take 138, Mx)) := Option.some.inj (h1.symm.trans bx)
  rw [e] at h2
  exact h2
theorem zbx_run {Mx : ZM} (bx : zbx = some (none, (SH.take 138, Mx))) : zevn 400 4 103 [zR 0] zc1x = some (none, (SH.take 138, Mx)) := bx
theorem law_start (L : Nat) (xs : Nat → Int32) (hL : L ≤ 2560) : ∃ M, zrun (zevl 60) 255 0 [zR zSC, zU, zU, zU] [] ([], zM0 L xs) = Q 60 255 18 [zR zSC, zR 0, zR 138, zI 0] [] M ∧ RL (zM0 L xs zSC) M ∧ zinv (SH, M) := by
  have i0 := zM0_inv L xs hL
  have c9 : zcok (9, 10, List.replicate 10 0) := ⟨by decide, by decide, by decide, by decide⟩
  have c10 : zcok (10, 25, List.replicate 25 0) := ⟨by decide, by decide, by decide, by decide⟩
  -- the class's object
  have ix : zinv zc1x := ⟨fun c hc => by rw [List.mem_singleton.mp hc]; exact c9, fun _ _ => zrg_0, by decide⟩
  have i1 : zinv ([(9, 10, List.replicate 10 0)], zzr (zM0 L xs) 0 0) := zinv_add i0 (by decide) c9
  have a1 : zag zc1x ([(9, 10, List.replicate 10 0)], zzr (zM0 L xs) 0 0) := ⟨rfl, fun a ha => funext fun j => by
    show (0 : Int) = zzr (zM0 L xs) 0 0 a j
    have z : zM0 L xs a j = 0 := if_neg ha
    unfold zzr
    rw [z]
    split <;> rfl⟩
  obtain ⟨Mx, bx⟩ := zbx_some
  have ex : zevl 60 103 [zR 0] zc1x = some (none, (SH.take 138, Mx)) := zevl_up 56 (zevn_evl 400 4 103 _ _ _ (zbx_run bx))
  have ok0 : zoks [zR 0] := fun v hv => by rw [List.mem_singleton.mp hv]; trivial
  obtain ⟨g1, e1, ag1⟩ := zevl_ag 60 103 [zR 0] zc1x _ none _ ok0 ix rfl a1 ex
  obtain ⟨-, ig1, lg1⟩ := zevl_keep 60 103 [zR 0] _ none g1 ok0 i1 e1
  obtain ⟨-, ixx, lxx⟩ := zevl_keep 60 103 [zR 0] _ none _ ok0 ix ex
  obtain ⟨s1, m1⟩ := g1
  obtain ⟨ag1, ag2⟩ := ag1
  dsimp only at ag1 ag2
  subst ag1
  -- the reference's object
  have len : (SH.take 138).length = 138 := by decide +kernel
  obtain ⟨Mf, bm', vals⟩ := zbm_run bx
  rw [len] at bm'
  have em : zevl 60 152 [zR 138] (SH.take 138 ++ [(10, 25, List.replicate 25 0)], zzr Mx 138 0) = some (none, (SH, Mf)) := zevl_up 56 (zevn_evl 400 4 152 _ _ _ bm')
  have ok1 : zoks [zR 138] := fun v hv => by rw [List.mem_singleton.mp hv]; trivial
  have i2 : zinv (SH.take 138 ++ [(10, 25, List.replicate 25 0)], zzr Mx 138 0) := zinv_add ixx (by rw [len]; decide) c10
  have i3 : zinv (SH.take 138 ++ [(10, 25, List.replicate 25 0)], zzr m1 138 0) := zinv_add ig1 (by rw [len]; decide) c10
  have zsc : ∀ (N : ZM) (j : Int), zzr N 138 0 zSC j = N zSC j := fun N j => if_neg (by unfold zSC; omega)
  obtain ⟨g2, e2, bg⟩ := zevl_ag 60 152 [zR 138] _ (SH.take 138 ++ [(10, 25, List.replicate 25 0)], zzr m1 138 0) none _ ok1 i2 (by
    show zzr Mx 138 0 zSC (-1) = 0
    rw [zsc]
    exact lxx.2.2 (-1)) (zag_zr (h := (SH.take 138, Mx)) (g := (SH.take 138, m1)) ⟨rfl, ag2⟩ _ 138 0) em
  obtain ⟨-, ig2, lg2⟩ := zevl_keep 60 152 [zR 138] _ none g2 ok1 i3 e2
  obtain ⟨s2, m2⟩ := g2
  obtain ⟨bg1, bg2⟩ := bg
  dsimp only at bg1 bg2
  subst bg1
  have v : ∀ a j, a ≠ zSC → m2 a j = zbf a j := fun a j ha => by rw [← bg2 a ha, vals]
  have v0 : ∀ a j, a ≠ zSC → (a, j) ∈ ([(0, 9), (1, 8), (1, 9), (1, 10), (1, 11), (19, 1), (19, 2), (84, 4), (84, 5), (84, 6), (138, 2), (138, 4), (138, 6), (138, 8), (138, 10), (138, 12), (138, 15), (138, 17), (138, 19), (138, 20), (139, 120), (139, 121), (139, 122), (139, 123)] : List (Nat × Int)) → m2 a j = 0 := fun a j ha hm => (v a j ha).trans (zbf_l hm)
  have sc : m2 zSC = zM0 L xs zSC := funext fun j => by
    have q1 := lg2.2.2 j
    have q2 := lg1.2.2 j
    dsimp only at q1 q2
    rw [q1, zsc, q2]
    show zzr (zM0 L xs) 0 0 zSC j = _
    exact if_neg (by unfold zSC; omega)
  have nz : ∀ a, a < 153 → a ≠ zSC := fun a ha => by unfold zSC; omega
  have g0 : m2 139 120 = 0 := v0 139 120 (nz 139 (by decide)) (by decide)
  have g1 : m2 139 121 = 0 := v0 139 121 (nz 139 (by decide)) (by decide)
  have g2 : m2 139 122 = 0 := v0 139 122 (nz 139 (by decide)) (by decide)
  have g3 : m2 139 123 = 0 := v0 139 123 (nz 139 (by decide)) (by decide)
  have d0 : m2 1 8 = 0 := v0 1 8 (nz 1 (by decide)) (by decide)
  have d1 : m2 1 9 = 0 := v0 1 9 (nz 1 (by decide)) (by decide)
  have d2 : m2 1 10 = 0 := v0 1 10 (nz 1 (by decide)) (by decide)
  have d3 : m2 1 11 = 0 := v0 1 11 (nz 1 (by decide)) (by decide)
  have h0 : m2 19 1 = 0 := v0 19 1 (nz 19 (by decide)) (by decide)
  have h1 : m2 19 2 = 0 := v0 19 2 (nz 19 (by decide)) (by decide)
  have h2 : m2 138 2 = 0 := v0 138 2 (nz 138 (by decide)) (by decide)
  have s0 : m2 0 9 = 0 := v0 0 9 (nz 0 (by decide)) (by decide)
  have s1 : m2 138 4 = 0 := v0 138 4 (nz 138 (by decide)) (by decide)
  have t0 : m2 84 5 = 0 := v0 84 5 (nz 84 (by decide)) (by decide)
  have t1 : m2 138 17 = 0 := v0 138 17 (nz 138 (by decide)) (by decide)
  have t2 : m2 84 7 = -104 := (v 84 7 (nz 84 (by decide))).trans zbf_ok2.1
  have t3 : m2 138 18 = -104 := (v 138 18 (nz 138 (by decide))).trans zbf_ok2.2
  refine ⟨m2, ?_, ⟨sc, ?_, ?_, ?_, ?_, ?_⟩, ig2⟩
  · refine Eq.trans (g_new (ci := 9) (w := 10) f_255_0 (by decide +kernel) (by decide +kernel) (by show 0 < 2000; decide)) ?_
    refine Eq.trans (g_x (st' := [zR 0, zR 0]) (ls' := [zR zSC, zU, zU, zU]) (pc' := 4) f_255_3 rfl rfl (by unfold zex; dsimp only; rw [if_pos (by rfl)]; rfl)) ?_
    refine Eq.trans (g_call (k' := 103) (kd := 2) [zR 0] [zR 0] f_255_4 rfl (by decide +kernel) rfl (by decide +kernel) (by decide) (by show (zkn [(9, 10, List.replicate 10 0)] 0 == zown 103) = true; decide +kernel) e1) ?_
    refine Eq.trans (g_x (st' := []) (ls' := [zR zSC, zR 0, zU, zU]) (pc' := 8) f_255_7 rfl rfl rfl) ?_
    refine Eq.trans (g_new (ci := 10) (w := 25) f_255_8 (by decide +kernel) (by decide +kernel) (by show (SH.take 138).length < 2000; rw [len]; decide)) ?_
    show zrun (zevl 60) 255 11 [zR zSC, zR 0, zU, zU] [zR (SH.take 138).length] (SH.take 138 ++ [(10, 25, List.replicate 25 0)], zzr m1 (SH.take 138).length 0) = _
    rw [len]
    refine Eq.trans (g_x (st' := [zR 138, zR 138]) (ls' := [zR zSC, zR 0, zU, zU]) (pc' := 12) f_255_11 rfl rfl (by unfold zex; dsimp only; rw [if_pos (by rfl)])) ?_
    refine Eq.trans (g_call (k' := 152) (kd := 2) [zR 138] [zR 138] f_255_12 rfl (by decide +kernel) rfl (by decide +kernel) (by decide) (by show (zkn (SH.take 138 ++ [(10, 25, List.replicate 25 0)]) 138 == zown 152) = true; decide +kernel) e2) ?_
    refine Eq.trans (g_x (st' := []) (ls' := [zR zSC, zR 0, zR 138, zU]) (pc' := 16) f_255_15 rfl rfl rfl) ?_
    refine Eq.trans (g_x (st' := [zI 0]) (ls' := [zR zSC, zR 0, zR 138, zU]) (pc' := 17) f_255_16 rfl rfl rfl) ?_
    exact g_x (st' := []) (ls' := [zR zSC, zR 0, zR 138, zI 0]) (pc' := 18) f_255_17 rfl rfl rfl
  · refine ⟨?_, fun r r0 r1 => absurd r1 (by omega), fun r s r0 r1 => absurd r1 (by omega), fun c c0 c1 => absurd c1 (by omega), fun c f c0 c1 => absurd c1 (by omega)⟩
    unfold wfN
    rw [g0, g1, g2, g3]
    decide
  · exact ⟨⟨d0.trans g0.symm, d1.trans g1.symm, d2.trans g2.symm, d3.trans g3.symm⟩, fun r r0 r1 => absurd r1 (by omega), fun c c0 c1 => absurd c1 (by omega)⟩
  · unfold HI
    rw [h0, h1, h2]
    exact ⟨by decide, by decide, rfl, fun k k0 k1 => absurd k1 (by omega)⟩
  · unfold SV
    rw [s0, s1]
    exact ⟨Or.inl rfl, rfl, fun z => absurd z (by decide)⟩
  · unfold TX
    rw [t0, t1, t2, t3]
    exact ⟨by decide, rfl, fun i i0 i1 => absurd i1 (by omega), rfl⟩
