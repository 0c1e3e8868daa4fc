/-! the corridors of a build -/
def jnS (g : Int → Int) (a b : Int) (s : Int × Int) : Int × Int := if dst g a b < dst g s.1 s.2 then (a, b) else s
def jnA (g : Int → Int) (a lo : Int) (s : Int × Int) (t : Int) : Int × Int := its (fun t s => jnS g a (lo + t) s) s t
def jnB (g : Int → Int) (fr mid to : Int) (k : Int) : Int × Int := its (fun k s => jnA g (fr + k) mid s (to - mid)) (fr, mid) k
def jnP (g : Int → Int) (s : Int × Int) : Prop := (0 ≤ s.1 ∧ s.1 < g 120) ∧ 0 ≤ s.2 ∧ s.2 < g 120
theorem jnS_P {g : Int → Int} {a b : Int} {s : Int × Int} (h : jnP g s) (ha : 0 ≤ a ∧ a < g 120) (hb : 0 ≤ b ∧ b < g 120) : jnP g (jnS g a b s) := by
  unfold jnS
  split
  · exact ⟨ha, hb⟩
  · exact h
section
variable {d : Nat} {M P : ZM} {g : Int → Int}
theorem m_joinIn {a fr mid to : Int} (hw : WF (M 139)) (ha : 0 ≤ a ∧ a < M 139 120) (hr : 0 ≤ mid ∧ mid ≤ to ∧ to ≤ M 139 120) (s : Int × Int) (hs : jnP (M 139) s) : ∃ z, Q (d + 3) 184 18 [zR 138, zI fr, zI mid, zI to, zI s.1, zI s.2, zI a, zI mid] [] M = Q (d + 3) 184 9 [zR 138, zI fr, zI mid, zI to, zI (jnA (M 139) a mid s (to - mid)).1, zI (jnA (M 139) a mid s (to - mid)).2, zI (a + 1), z] [] M ∧ jnP (M 139) (jnA (M 139) a mid s (to - mid)) := by
  have hR := wf_R hw
  refine lpi (fun t (s' : Int × Int) => Q (d + 3) 184 18 [zR 138, zI fr, zI mid, zI to, zI s'.1, zI s'.2, zI a, zI (mid + t)] [] M) (fun o => ∃ z, o = Q (d + 3) 184 9 [zR 138, zI fr, zI mid, zI to, zI (jnA (M 139) a mid s (to - mid)).1, zI (jnA (M 139) a mid s (to - mid)).2, zI (a + 1), z] [] M ∧ jnP (M 139) (jnA (M 139) a mid s (to - mid))) (to - mid) (fun t s' => s' = jnA (M 139) a mid s t ∧ jnP (M 139) s') ?_ ?_ 0 s (by omega) ⟨rfl, hs⟩ |> fun z => ?_
  · rw [Int.add_zero] at z
    exact z
  · rintro t s' t0 t1 ⟨e, p⟩
    have hb : 0 ≤ mid + t ∧ mid + t < M 139 120 := by omega
    have nx : jnA (M 139) a mid s (t + 1) = jnS (M 139) a (mid + t) s' := by
      unfold jnA
      rw [its_s t0, e]
      rfl
    refine Or.inr ⟨jnS (M 139) a (mid + t) s', ?_, nx.symm, jnS_P p ha hb⟩
    rw [q_184_18, if_neg (by omega), m_distance hw ha hb, Cb_I, q_184_32, m_distance hw p.1 p.2, Cb_I, q_184_40, zw_id (x := mid + t + 1) (by omega), show mid + (t + 1) = mid + t + 1 by omega]
    by_cases q : dst (M 139) a (mid + t) < dst (M 139) s'.1 s'.2
    · have e2 : jnS (M 139) a (mid + t) s' = (a, mid + t) := if_pos q
      rw [if_neg (by omega), e2]
    · have e2 : jnS (M 139) a (mid + t) s' = s' := if_neg q
      rw [if_pos (by omega), e2]
  · rintro s' ⟨e, p⟩
    rw [← e]
    exact ⟨zI to, by rw [q_184_18, show mid + (to - mid) = to by omega, if_pos (Int.le_refl _), zw_id (by omega)], p⟩
theorem m_join {fr mid to : Int} (hw : WF (M 139)) (hr : 0 ≤ fr ∧ fr < mid ∧ mid < to ∧ to ≤ M 139 120) : ∃ z y, E (d + 4) 184 [zR 138, zI fr, zI mid, zI to] M = Cb (E (d + 3) 168 [zR 138, zI (jnB (M 139) fr mid to (mid - fr)).1, zI (jnB (M 139) fr mid to (mid - fr)).2] M) (fun v h => zrun (zevl (d + 3)) 184 71 [zR 138, zI fr, zI mid, zI to, zI (jnB (M 139) fr mid to (mid - fr)).1, zI (jnB (M 139) fr mid to (mid - fr)).2, zI z, y] (v.toList ++ []) h) := by
  have hR := wf_R hw
  rw [en_184, q_184_0]
  refine lpi (fun k (s : (Int × Int) × ZV) => Q (d + 3) 184 9 [zR 138, zI fr, zI mid, zI to, zI s.1.1, zI s.1.2, zI (fr + k), s.2] [] M) (fun o => ∃ z y, o = Cb (E (d + 3) 168 [zR 138, zI (jnB (M 139) fr mid to (mid - fr)).1, zI (jnB (M 139) fr mid to (mid - fr)).2] M) (fun v h => zrun (zevl (d + 3)) 184 71 [zR 138, zI fr, zI mid, zI to, zI (jnB (M 139) fr mid to (mid - fr)).1, zI (jnB (M 139) fr mid to (mid - fr)).2, zI z, y] (v.toList ++ []) h)) (mid - fr) (fun k s => s.1 = jnB (M 139) fr mid to k ∧ jnP (M 139) s.1) ?_ ?_ 0 ((fr, mid), zU) (by omega) ⟨rfl, by unfold jnP; dsimp only; omega⟩ |> fun z => ?_
  · rw [Int.add_zero] at z
    exact z
  · rintro k ⟨s, z⟩ k0 k1 ⟨e, p⟩
    dsimp only at e p ⊢
    have nx : jnB (M 139) fr mid to (k + 1) = jnA (M 139) (fr + k) mid s (to - mid) := by
      unfold jnB
      rw [its_s k0, e]
      rfl
    obtain ⟨z', e1, p1⟩ := m_joinIn (d := d) (a := fr + k) (fr := fr) (mid := mid) (to := to) hw (by omega) (by omega) s p
    refine Or.inr ⟨(jnA (M 139) (fr + k) mid s (to - mid), z'), ?_, nx.symm, p1⟩
    rw [q_184_9, if_neg (by omega), e1, show fr + (k + 1) = fr + k + 1 by omega]
  · rintro ⟨s, z⟩ ⟨e, p⟩
    dsimp only at e p ⊢
    rw [q_184_9, if_pos (by omega), e]
    exact ⟨_, _, rfl⟩
/-- the class's best so far: nothing before the first pair -/
def jnX (g : Int → Int) (s : Int × Int) (x : Int × Int × Int) (b : Prop) : Prop := (x.1 = s.1 ∧ x.2.1 = s.2 ∧ x.2.2 = dst g s.1 s.2) ∨ ((x.1 = -1 ∧ x.2.1 = -1 ∧ x.2.2 = 40) ∧ b)
theorem x_joinIn {a f fr mid to : Int} (hw : WF g) (hd : dgr M 1 g) (ha : 0 ≤ a ∧ a < g 120) (hf : 0 ≤ f ∧ f + 1 < 23) (k1 : M 114 (f + 1) = mid) (k2 : M 115 (f + 1) = to) (hr : 0 ≤ mid ∧ mid < to ∧ to ≤ g 120) (s : Int × Int) (x : Int × Int × Int) (hs : jnP g s) (hx : jnX g s x (s = (a, mid))) : ∃ z x', Q (d + 3) 9 37 [zR 109, zR 1, zI f, zI (f + 1), zI x.1, zI x.2.1, zI x.2.2, zI a, zI mid] [] M = Q (d + 3) 9 18 [zR 109, zR 1, zI f, zI (f + 1), zI x'.1, zI x'.2.1, zI x'.2.2, zI (a + 1), z] [] M ∧ jnP g (jnA g a mid s (to - mid)) ∧ jnX g (jnA g a mid s (to - mid)) x' False := by
  have hR := wf_R hw
  refine lpi (fun t (x : Int × Int × Int) => Q (d + 3) 9 37 [zR 109, zR 1, zI f, zI (f + 1), zI x.1, zI x.2.1, zI x.2.2, zI a, zI (mid + t)] [] M) (fun o => ∃ z x', o = Q (d + 3) 9 18 [zR 109, zR 1, zI f, zI (f + 1), zI x'.1, zI x'.2.1, zI x'.2.2, zI (a + 1), z] [] M ∧ jnP g (jnA g a mid s (to - mid)) ∧ jnX g (jnA g a mid s (to - mid)) x' False) (to - mid) (fun t x => jnP g (jnA g a mid s t) ∧ jnX g (jnA g a mid s t) x (t = 0 ∧ s = (a, mid))) ?_ ?_ 0 x (by omega) ⟨hs, hx.imp id (fun z => ⟨z.1, rfl, z.2⟩)⟩ |> fun z => ?_
  · rw [Int.add_zero] at z
    exact z
  · rintro t x t0 t1 ⟨p, q⟩
    have hb : 0 ≤ mid + t ∧ mid + t < g 120 := by omega
    have nx : jnA g a mid s (t + 1) = jnS g a (mid + t) (jnA g a mid s t) := by
      unfold jnA
      rw [its_s t0]
    have dr := dst_rg hw ha hb
    rw [nx]
    have st : Q (d + 3) 9 37 [zR 109, zR 1, zI f, zI (f + 1), zI x.1, zI x.2.1, zI x.2.2, zI a, zI (mid + t)] [] M = if x.2.2 ≤ dst g a (mid + t) then Q (d + 3) 9 37 [zR 109, zR 1, zI f, zI (f + 1), zI x.1, zI x.2.1, zI x.2.2, zI a, zI (mid + (t + 1))] [] M else Q (d + 3) 9 37 [zR 109, zR 1, zI f, zI (f + 1), zI a, zI (mid + t), zI (dst g a (mid + t)), zI a, zI (mid + (t + 1))] [] M := by
      rw [q_9_37, if_pos (by omega), k2, if_neg (by omega), x_distance hw hd ha hb, Cb_I, q_9_56, zw_id (x := mid + t + 1) (by omega), show mid + (t + 1) = mid + t + 1 by omega, x_distance hw hd ha hb, Cb_I, q_9_77, zw_id (x := mid + t + 1) (by omega)]
    rcases q with ⟨q1, q2, q3⟩ | ⟨⟨q1, q2, q3⟩, q4, q5⟩
    · by_cases c : dst g a (mid + t) < dst g (jnA g a mid s t).1 (jnA g a mid s t).2
      · have e2 : jnS g a (mid + t) (jnA g a mid s t) = (a, mid + t) := if_pos c
        refine Or.inr ⟨(a, mid + t, dst g a (mid + t)), ?_, by rw [e2]; exact ⟨ha, hb⟩, by rw [e2]; exact Or.inl ⟨rfl, rfl, rfl⟩⟩
        rw [st, if_neg (by omega)]
      · have e2 : jnS g a (mid + t) (jnA g a mid s t) = jnA g a mid s t := if_neg c
        refine Or.inr ⟨x, ?_, by rw [e2]; exact p, by rw [e2]; exact Or.inl ⟨q1, q2, q3⟩⟩
        rw [st, if_pos (by omega)]
    · have e1 : jnA g a mid s t = (a, mid) := by rw [q4]; exact q5
      have e2 : jnS g a (mid + t) (jnA g a mid s t) = (a, mid + t) := by
        unfold jnS
        rw [e1, q4, Int.add_zero]
        split <;> rfl
      refine Or.inr ⟨(a, mid + t, dst g a (mid + t)), ?_, by rw [e2]; exact ⟨ha, hb⟩, by rw [e2]; exact Or.inl ⟨rfl, rfl, rfl⟩⟩
      rw [st, if_neg (by omega)]
  · rintro x ⟨p, q⟩
    refine ⟨zI to, x, ?_, p, q.imp id (fun z => ?_)⟩
    · rw [q_9_37, if_pos (by omega), k2, show mid + (to - mid) = to by omega, if_pos (Int.le_refl _), zw_id (by omega)]
    · have := z.2.1
      omega
theorem x_join {f fr mid to : Int} (hw : WF g) (hd : dgr M 1 g) (hf : 0 ≤ f ∧ f + 1 < 23) (k1 : M 114 f = fr) (k2 : M 115 f = mid) (k3 : M 114 (f + 1) = mid) (k4 : M 115 (f + 1) = to) (hr : 0 ≤ fr ∧ fr < mid ∧ mid < to ∧ to ≤ g 120) : ∃ z y w, E (d + 4) 9 [zR 109, zR 1, zI f, zI (f + 1)] M = Cb (E (d + 3) 20 [zR 1, zI (jnB g fr mid to (mid - fr)).1, zI (jnB g fr mid to (mid - fr)).2] M) (fun v h => zrun (zevl (d + 3)) 9 99 [zR 109, zR 1, zI f, zI (f + 1), zI (jnB g fr mid to (mid - fr)).1, zI (jnB g fr mid to (mid - fr)).2, zI w, zI z, y] (v.toList ++ []) h) := by
  have hR := wf_R hw
  rw [en_9, q_9_0, if_pos (by omega), k1]
  refine lpi (fun k (s : (Int × Int × Int) × ZV) => Q (d + 3) 9 18 [zR 109, zR 1, zI f, zI (f + 1), zI s.1.1, zI s.1.2.1, zI s.1.2.2, zI (fr + k), s.2] [] M) (fun o => ∃ z y w, o = Cb (E (d + 3) 20 [zR 1, zI (jnB g fr mid to (mid - fr)).1, zI (jnB g fr mid to (mid - fr)).2] M) (fun v h => zrun (zevl (d + 3)) 9 99 [zR 109, zR 1, zI f, zI (f + 1), zI (jnB g fr mid to (mid - fr)).1, zI (jnB g fr mid to (mid - fr)).2, zI w, zI z, y] (v.toList ++ []) h)) (mid - fr) (fun k s => jnP g (jnB g fr mid to k) ∧ jnX g (jnB g fr mid to k) s.1 (k = 0)) ?_ ?_ 0 ((-1, -1, 40), zU) (by omega) ⟨by unfold jnP jnB; rw [its_0]; dsimp only; omega, Or.inr ⟨⟨rfl, rfl, rfl⟩, rfl⟩⟩ |> fun z => ?_
  · rw [Int.add_zero] at z
    exact z
  · rintro k ⟨x, z⟩ k0 h1 ⟨p, q⟩
    dsimp only at q ⊢
    have nx : jnB g fr mid to (k + 1) = jnA g (fr + k) mid (jnB g fr mid to k) (to - mid) := by
      unfold jnB
      rw [its_s k0]
    obtain ⟨z', x', e1, p1, q1⟩ := x_joinIn (d := d) (a := fr + k) (f := f) (fr := fr) (mid := mid) (to := to) hw hd (by omega) hf k3 k4 (by omega) (jnB g fr mid to k) x p (q.imp id (fun z => ⟨z.1, by rw [z.2, Int.add_zero]; rfl⟩))
    refine Or.inr ⟨(x', z'), ?_, by rw [nx]; exact p1, by rw [nx]; exact q1.imp id (fun z => z.2.elim)⟩
    rw [q_9_18, if_pos (by omega), k2, if_neg (by omega), if_pos (by omega), k3, e1, show fr + (k + 1) = fr + k + 1 by omega]
  · rintro ⟨x, z⟩ ⟨p, q⟩
    dsimp only at q ⊢
    rcases q with ⟨q1, q2, q3⟩ | ⟨_, q⟩
    · rw [q_9_18, if_pos (by omega), k2, if_pos (by omega), q1, q2]
      exact ⟨_, _, _, rfl⟩
    · omega
end
