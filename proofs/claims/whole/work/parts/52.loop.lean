/-! addLoop -/
def itS {σ : Type} (f : Int → σ → σ) (s : σ) (n : Nat) : σ := match n with
  | 0 => s
  | n + 1 => f n (itS f s n)
def its {σ : Type} (f : Int → σ → σ) (s : σ) (n : Int) : σ := itS f s n.toNat
theorem its_0 {σ : Type} {f : Int → σ → σ} {s : σ} : its f s 0 = s := rfl
theorem its_s {σ : Type} {f : Int → σ → σ} {s : σ} {n : Int} (h : 0 ≤ n) : its f s (n + 1) = f n (its f s n) := by
  unfold its
  rw [toN_s h]
  show f (n.toNat : Int) _ = _
  rw [Int.toNat_of_nonneg h]
noncomputable def lpS (g : Int → Int) (a b : Int) (s : Int × Int) : Int × Int := if wayF g a b = -1 ∧ (s.1 = -1 ∨ dst g a b < dst g s.1 s.2) then (a, b) else s
noncomputable def lpA (g : Int → Int) (a : Int) (s : Int × Int) (t : Int) : Int × Int := its (fun t s => lpS g a (a + 1 + t) s) s t
noncomputable def lpB (g : Int → Int) (a : Int) : Int × Int := its (fun a s => lpA g a s (g 120 - (a + 1))) (-1, -1) a
def lpP (g : Int → Int) (s : Int × Int) : Prop := s.1 = -1 ∨ (0 ≤ s.1 ∧ s.1 < s.2 ∧ s.2 < g 120)
theorem lpS_P {g : Int → Int} {a b : Int} {s : Int × Int} (h : lpP g s) (hab : 0 ≤ a ∧ a < b ∧ b < g 120) : lpP g (lpS g a b s) := by
  unfold lpS
  split
  · exact Or.inr hab
  · exact h
section
variable {d : Nat} {M : ZM} {g : Int → Int}
/-- the least distance so far, as the class holds it -/
noncomputable def lpD (g : Int → Int) (s : Int × Int) : Int := if s.1 = -1 then 40 else dst g s.1 s.2
theorem x_loopIn {a : Int} (hw : WF g) (hd : dgr M 1 g) (ha : 0 ≤ a ∧ a < g 120) (s : Int × Int) (hs : lpP g s) : ∃ z, Q (d + 3) 21 25 [zR 1, zI s.1, zI s.2, zI (lpD g s), zI a, zI (a + 1)] [] M = Q (d + 3) 21 10 [zR 1, zI (lpA g a s (g 120 - (a + 1))).1, zI (lpA g a s (g 120 - (a + 1))).2, zI (lpD g (lpA g a s (g 120 - (a + 1)))), zI (a + 1), z] [] M ∧ lpP g (lpA g a s (g 120 - (a + 1))) := by
  have hR := wf_R hw
  refine lpi (fun t (s' : Int × Int) => Q (d + 3) 21 25 [zR 1, zI s'.1, zI s'.2, zI (lpD g s'), zI a, zI (a + 1 + t)] [] M) (fun o => ∃ z, o = Q (d + 3) 21 10 [zR 1, zI (lpA g a s (g 120 - (a + 1))).1, zI (lpA g a s (g 120 - (a + 1))).2, zI (lpD g (lpA g a s (g 120 - (a + 1)))), zI (a + 1), z] [] M ∧ lpP g (lpA g a s (g 120 - (a + 1)))) (g 120 - (a + 1)) (fun t s' => s' = lpA g a s t ∧ lpP g s') ?_ ?_ 0 s (by omega) ⟨rfl, hs⟩ |> fun z => ?_
  · rw [Int.add_zero] at z
    exact z
  · rintro t s' t0 t1 ⟨e, p⟩
    have hb : 0 ≤ a + 1 + t ∧ a + 1 + t < g 120 := by omega
    have dr := dst_rg hw ha hb
    have nx : lpA g a s (t + 1) = lpS g a (a + 1 + t) s' := by
      unfold lpA
      rw [its_s t0, e]
      rfl
    refine Or.inr ⟨lpS g a (a + 1 + t) s', ?_, nx.symm, lpS_P p (by omega)⟩
    have lt : dst g a (a + 1 + t) < lpD g s' ↔ (s'.1 = -1 ∨ dst g a (a + 1 + t) < dst g s'.1 s'.2) := by
      unfold lpD
      by_cases k : s'.1 = -1
      · rw [if_pos k]
        exact ⟨fun _ => Or.inl k, fun _ => by omega⟩
      · rw [if_neg k]
        exact ⟨Or.inr, fun z => z.resolve_left k⟩
    rw [q_21_25, h1R hd, if_neg (by omega), x_distance hw hd ha hb, Cb_I, q_21_42, zw_id (x := a + 1 + t + 1) (by omega), show a + 1 + (t + 1) = a + 1 + t + 1 by omega]
    by_cases k : dst g a (a + 1 + t) < lpD g s'
    · rw [if_neg (by omega), x_between hw hd, Cb_I, q_21_54]
      by_cases l : wayF g a (a + 1 + t) = -1
      · have e2 : lpS g a (a + 1 + t) s' = (a, a + 1 + t) := if_pos ⟨l, lt.1 k⟩
        have e3 : lpD g (a, a + 1 + t) = dst g a (a + 1 + t) := if_neg (by dsimp only; omega)
        rw [if_neg (fun q => q l), x_distance hw hd ha hb, Cb_I, q_21_72, e2, e3, zw_id (by omega)]
      · have e2 : lpS g a (a + 1 + t) s' = s' := if_neg (fun q => l q.1)
        rw [if_pos l, e2, zw_id (by omega)]
    · have e2 : lpS g a (a + 1 + t) s' = s' := if_neg (fun q => k (lt.2 q.2))
      rw [if_pos (by omega), e2]
  · rintro s' ⟨e, p⟩
    rw [← e]
    exact ⟨zI (g 120), by rw [q_21_25, h1R hd, if_pos (by omega), zw_id (by omega), show a + 1 + (g 120 - (a + 1)) = g 120 by omega], p⟩
theorem x_loopOut (hw : WF g) (hd : dgr M 1 g) : ∃ v3 v4 z, E (d + 4) 21 [zR 1] M = (if (lpB g (g 120)).1 ≠ -1 then (Cb (E (d + 3) 20 [zR 1, zI (lpB g (g 120)).1, zI (lpB g (g 120)).2] M) (fun v h => zrun (zevl (d + 3)) 21 101 [zR 1, zI (lpB g (g 120)).1, zI (lpB g (g 120)).2, zI v3, zI v4, z] (v.toList ++ []) h)) else Q (d + 3) 21 101 [zR 1, zI (lpB g (g 120)).1, zI (lpB g (g 120)).2, zI v3, zI v4, z] [zI (-104)] M) ∧ lpP g (lpB g (g 120)) := by
  have hR := wf_R hw
  rw [en_21, q_21_0]
  refine lpi (fun a (s : (Int × Int) × ZV) => Q (d + 3) 21 10 [zR 1, zI s.1.1, zI s.1.2, zI (lpD g s.1), zI a, s.2] [] M) (fun o => ∃ v3 v4 z, o = (if (lpB g (g 120)).1 ≠ -1 then (Cb (E (d + 3) 20 [zR 1, zI (lpB g (g 120)).1, zI (lpB g (g 120)).2] M) (fun v h => zrun (zevl (d + 3)) 21 101 [zR 1, zI (lpB g (g 120)).1, zI (lpB g (g 120)).2, zI v3, zI v4, z] (v.toList ++ []) h)) else Q (d + 3) 21 101 [zR 1, zI (lpB g (g 120)).1, zI (lpB g (g 120)).2, zI v3, zI v4, z] [zI (-104)] M) ∧ lpP g (lpB g (g 120))) (g 120) (fun a s => s.1 = lpB g a ∧ lpP g s.1) ?_ ?_ 0 ((-1, -1), zU) (by omega) ⟨rfl, Or.inl rfl⟩
  · rintro a ⟨s, z⟩ a0 a1 ⟨e, p⟩
    dsimp only at e p ⊢
    have nx : lpB g (a + 1) = lpA g a s (g 120 - (a + 1)) := by
      unfold lpB
      rw [its_s a0, e]
      rfl
    obtain ⟨z', e1, p1⟩ := x_loopIn (d := d) hw hd ⟨a0, a1⟩ s p
    refine Or.inr ⟨(lpA g a s (g 120 - (a + 1)), z'), ?_, nx.symm, p1⟩
    rw [q_21_10, h1R hd, if_neg (by omega), zw_id (by omega), e1]
  · rintro ⟨s, z⟩ ⟨e, p⟩
    dsimp only at e p ⊢
    rw [q_21_10, h1R hd, if_pos (Int.le_refl _), e]
    rw [e] at p
    exact ⟨_, _, z, rfl, p⟩
theorem m_loopIn {a : Int} (hw : WF (M 139)) (ha : 0 ≤ a ∧ a < M 139 120) (s : Int × Int) (hs : lpP (M 139) s) : ∃ z, Q (d + 3) 186 22 [zR 138, zI s.1, zI s.2, zI a, zI (a + 1)] [] M = Q (d + 3) 186 6 [zR 138, zI (lpA (M 139) a s (M 139 120 - (a + 1))).1, zI (lpA (M 139) a s (M 139 120 - (a + 1))).2, zI (a + 1), z] [] M ∧ lpP (M 139) (lpA (M 139) a s (M 139 120 - (a + 1))) := by
  have hR := wf_R hw
  have hW := wf_W hw
  refine lpi (fun t (s' : Int × Int) => Q (d + 3) 186 22 [zR 138, zI s'.1, zI s'.2, zI a, zI (a + 1 + t)] [] M) (fun o => ∃ z, o = Q (d + 3) 186 6 [zR 138, zI (lpA (M 139) a s (M 139 120 - (a + 1))).1, zI (lpA (M 139) a s (M 139 120 - (a + 1))).2, zI (a + 1), z] [] M ∧ lpP (M 139) (lpA (M 139) a s (M 139 120 - (a + 1)))) (M 139 120 - (a + 1)) (fun t s' => s' = lpA (M 139) a s t ∧ lpP (M 139) s') ?_ ?_ 0 s (by omega) ⟨rfl, hs⟩ |> fun z => ?_
  · rw [Int.add_zero] at z
    exact z
  · rintro t s' t0 t1 ⟨e, p⟩
    have hb : 0 ≤ a + 1 + t ∧ a + 1 + t < M 139 120 := by omega
    have nx : lpA (M 139) a s (t + 1) = lpS (M 139) a (a + 1 + t) s' := by
      unfold lpA
      rw [its_s t0, e]
      rfl
    refine Or.inr ⟨lpS (M 139) a (a + 1 + t) s', ?_, nx.symm, lpS_P p (by omega)⟩
    rw [q_186_22, if_neg (by omega), m_wayBetween hW, Cb_I, q_186_41, zw_id (x := a + 1 + t + 1) (by omega), show a + 1 + (t + 1) = a + 1 + t + 1 by omega]
    by_cases l : wayF (M 139) a (a + 1 + t) = -1
    · rw [if_neg (fun q => q l)]
      by_cases k : s'.1 = -1
      · have e2 : lpS (M 139) a (a + 1 + t) s' = (a, a + 1 + t) := if_pos ⟨l, Or.inl k⟩
        rw [if_pos k, e2]
      · have p' := p.resolve_left k
        rw [if_neg k, m_distance hw ha hb, Cb_I, q_186_57, m_distance hw (by omega) (by omega), Cb_I, q_186_63, zw_id (x := a + 1 + t + 1) (by omega)]
        by_cases q : dst (M 139) a (a + 1 + t) < dst (M 139) s'.1 s'.2
        · have e2 : lpS (M 139) a (a + 1 + t) s' = (a, a + 1 + t) := if_pos ⟨l, Or.inr q⟩
          rw [if_neg (by omega), e2]
        · have e2 : lpS (M 139) a (a + 1 + t) s' = s' := if_neg (fun z => z.2.elim k q)
          rw [if_pos (by omega), e2]
    · have e2 : lpS (M 139) a (a + 1 + t) s' = s' := if_neg (fun q => l q.1)
      rw [if_pos l, e2]
  · rintro s' ⟨e, p⟩
    rw [← e]
    exact ⟨zI (M 139 120), by rw [q_186_22, if_pos (by omega), zw_id (by omega), show a + 1 + (M 139 120 - (a + 1)) = M 139 120 by omega], p⟩
theorem m_loopOut (hw : WF (M 139)) : ∃ v3 z, E (d + 4) 186 [zR 138] M = (if (lpB (M 139) (M 139 120)).1 ≠ -1 then (Cb (E (d + 3) 162 [zR 138] M) (fun v h => zrun (zevl (d + 3)) 186 95 [zR 138, zI (lpB (M 139) (M 139 120)).1, zI (lpB (M 139) (M 139 120)).2, zI v3, z] (v.toList ++ []) h)) else Rt (some (zI (-104))) M) := by
  have hR := wf_R hw
  rw [en_186, q_186_0]
  refine lpi (fun a (s : (Int × Int) × ZV) => Q (d + 3) 186 6 [zR 138, zI s.1.1, zI s.1.2, zI a, s.2] [] M) (fun o => ∃ v3 z, o = (if (lpB (M 139) (M 139 120)).1 ≠ -1 then (Cb (E (d + 3) 162 [zR 138] M) (fun v h => zrun (zevl (d + 3)) 186 95 [zR 138, zI (lpB (M 139) (M 139 120)).1, zI (lpB (M 139) (M 139 120)).2, zI v3, z] (v.toList ++ []) h)) else Rt (some (zI (-104))) M)) (M 139 120) (fun a s => s.1 = lpB (M 139) a ∧ lpP (M 139) s.1) ?_ ?_ 0 ((-1, -1), zU) (by omega) ⟨rfl, Or.inl rfl⟩
  · rintro a ⟨s, z⟩ a0 a1 ⟨e, p⟩
    dsimp only at e p ⊢
    have nx : lpB (M 139) (a + 1) = lpA (M 139) a s (M 139 120 - (a + 1)) := by
      unfold lpB
      rw [its_s a0, e]
      rfl
    obtain ⟨z', e1, p1⟩ := m_loopIn (d := d) hw ⟨a0, a1⟩ s p
    refine Or.inr ⟨(lpA (M 139) a s (M 139 120 - (a + 1)), z'), ?_, nx.symm, p1⟩
    rw [q_186_6, if_neg (by omega), zw_id (by omega), e1]
  · rintro ⟨s, z⟩ ⟨e, p⟩
    dsimp only at e p ⊢
    rw [q_186_6, if_pos (Int.le_refl _), e]
    exact ⟨_, z, rfl⟩
theorem o_addLoop {S : Int → Int} (hr : RL S M) : uok (d + 12) 112 186 [] S M := by
  have h' := hr
  obtain ⟨h1, h2, h3, h4, h5, h6⟩ := hr
  have sl := slo_rg (M 19 1)
  generalize hp : lpB (M 139) (M 139 120) = p
  by_cases k : p.1 = -1
  · obtain ⟨Ma, ea, fa, da⟩ := x_prepare (d := d + 8) h4.1 h2 h3
    have da1 : dgr Ma 1 (M 139) := dgr_cg (fun b b0 b1 => fa b (by omega)) h3
    have a39 : Ma 139 = M 139 := fa 139 (by omega)
    have a19 : Ma 19 = M 19 := fa 19 (by omega)
    obtain ⟨v3, v4, z, ex, -⟩ := x_loopOut (d := d + 7) h2 da1
    obtain ⟨w3, w, em⟩ := m_loopOut (d := d + 8) (M := Ma) (by rw [a39]; exact h2)
    rw [hp, if_neg (fun q => q k), q_21_101] at ex
    rw [a39, hp, if_neg (fun q => q k)] at em
    refine ⟨zI (-104), Ma, Ma, ?_, em, RL_nop h' fa frr_r fm_r⟩
    rw [en_112, q_112_0, ea, Cb_V, q_112_11, ex, Cb_I, q_112_19, x_settled (by rw [a19]; exact h4.1) (by rw [a19, h4.2.2.1]; exact h4.2.1), Cb_I, q_112_22, if_pos (by decide)]
  · obtain ⟨v, Ma, Mb, Mc, Md, Me, Mf, ea, eb, r1, r2, -, hc, ed, ee, -, ef, eg, rl⟩ := upd_core (d := d) h' (e_cor h2 p.1 p.2)
    have hc := hc trivial
    obtain ⟨Ma', ea', fa, da⟩ := x_prepare (d := d + 8) h4.1 h2 h3
    have same : Ma' = Ma := by
      have := ea'.symm.trans ea
      injection this with a
      injection a with b c
      injection c
    subst same
    have da1 : dgr Ma' 1 (M 139) := dgr_cg (fun b b0 b1 => fa b (by omega)) h3
    obtain ⟨v3, v4, z, ex, -⟩ := x_loopOut (d := d + 7) h2 da1
    rw [hp, if_pos k] at ex
    -- the class's new corridor at the depth at which it is made
    obtain ⟨v', g', -, -, nb, X, -⟩ := e_cor h2 p.1 p.2
    obtain ⟨Mb', eb', fb', -⟩ := X (d + 2) Ma' da1
    have up : E (d + 11) 20 [zR 1, zI p.1, zI p.2] Ma' = Rt (some (zI v')) Mb' := zevl_succ _ _ _ _ _ eb'
    have q := up.symm.trans eb
    injection q with q1
    injection q1 with q2 q3
    injection q3 with q4 q5
    injection q2 with q6
    injection q6 with q7
    subst q5
    subst q7
    have m39 : Mc 139 = M 139 := by
      have f1 : Mb' 139 = M 139 := (fb' 139 (by omega)).trans (fa 139 (by omega))
      rw [← hc]
      split
      · exact f1
      · rw [cmx_n (by decide)]
        exact f1
    obtain ⟨w3, w, em⟩ := m_loopOut (d := d + 8) (M := Mc) (by rw [m39]; exact h2)
    rw [m39, hp, if_pos k, ed, Cb_V, q_186_95, ee, Cb_I, q_186_101] at em
    refine ⟨zI v', Mc, Mf, ?_, ?_, rl⟩
    · rw [en_112, q_112_0, ea, Cb_V, q_112_11, ex, eb', Cb_I, q_21_101, Cb_I, q_112_19, x_settled r1 r2, Cb_I, q_112_22, hc]
    · rw [em]
      by_cases l : v' < 0
      · rw [if_pos l, q_186_110, eg l (nb trivial)]
      · rw [if_neg l, ef (by omega), Cb_V, q_186_110]
end
