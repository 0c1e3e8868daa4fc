/-! the order of the visit: the class's survey, the reference's tellVisit -/
theorem zwr_at {M : ZM} {a : Nat} {i v : Int} : zwr M a i v a i = v := if_pos ⟨rfl, rfl⟩
theorem zwr_ne {M : ZM} {a b : Nat} {i j v : Int} (h : b ≠ a) : zwr M a i v b j = M b j := if_neg (fun q => h q.1)
theorem zwr_nj {M : ZM} {a b : Nat} {i j v : Int} (h : j ≠ i) : zwr M a i v b j = M b j := if_neg (fun q => h q.2)
/-- the same but for the cells from lo to hi -/
def frr (lo hi : Nat) (M M' : ZM) : Prop := ∀ b, b < lo ∨ hi < b → M' b = M b
theorem frr_r {lo hi : Nat} {M : ZM} : frr lo hi M M := fun _ _ => rfl
theorem frr_t {lo hi : Nat} {M M' M'' : ZM} (h : frr lo hi M M') (k : frr lo hi M' M'') : frr lo hi M M'' := fun b hb => (k b hb).trans (h b hb)
theorem frr_w {lo hi r : Nat} {M M' : ZM} {i v : Int} (h : frr lo hi M M') (h1 : lo ≤ r) (h2 : r ≤ hi) : frr lo hi M (zwr M' r i v) := fun b hb => (zwr_n (by omega)).trans (h b hb)
theorem frr_1 {lo hi r : Nat} {M M' : ZM} (h : fr1 r M M') (h1 : lo ≤ r) (h2 : r ≤ hi) : frr lo hi M M' := fun b hb => h b (by omega)
theorem frr_v {lo hi lo' hi' : Nat} {M M' : ZM} (h : frr lo hi M M') (h1 : lo' ≤ lo) (h2 : hi ≤ hi') : frr lo' hi' M M' := fun b hb => h b (by omega)
theorem frr_d {lo hi : Nat} {M M' : ZM} {g : Int → Int} (h : frr lo hi M M') (h1 : 10 ≤ lo) (hd : dgr M 1 g) : dgr M' 1 g := dgr_cg (fun b _ h2 => h b (by omega)) hd
/-- what the reference keeps from call to call -/
def prs (f : Int) : Prop := f = 2 ∨ f = 4 ∨ f = 17 ∨ f = 18
def fm (M M' : ZM) : Prop := (∀ b, b < 138 ∨ 152 < b ∨ b = 139 ∨ b = 140 ∨ b = 141 ∨ b = 148 → M' b = M b) ∧ ∀ f, prs f → M' 138 f = M 138 f
theorem fm_r {M : ZM} : fm M M := ⟨fun _ _ => rfl, fun _ _ => rfl⟩
theorem fm_t {M M' M'' : ZM} (h : fm M M') (k : fm M' M'') : fm M M'' := ⟨fun b hb => (k.1 b hb).trans (h.1 b hb), fun f hf => (k.2 f hf).trans (h.2 f hf)⟩
theorem fm_1 {r : Nat} {M M' : ZM} (h : fr1 r M M') (hr : 142 ≤ r ∧ r ≤ 152 ∧ r ≠ 148) : fm M M' := ⟨fun b hb => h b (by omega), fun f _ => by rw [h 138 (by omega)]⟩
theorem fm_w {r : Nat} {M M' : ZM} {i v : Int} (h : fm M M') (hr : 142 ≤ r ∧ r ≤ 152 ∧ r ≠ 148) : fm M (zwr M' r i v) := fm_t h (fm_1 (fr1_w fr1_r) hr)
theorem fm_f {M M' : ZM} {i v : Int} (h : fm M M') (hi : ¬ prs i) : fm M (zwr M' 138 i v) := fm_t h ⟨fun b hb => zwr_n (by omega), fun f hf => zwr_nj (fun q => hi (q ▸ hf))⟩
theorem fm_g {M M' : ZM} (h : fm M M') : M' 139 = M 139 := h.1 139 (by omega)
def eqn (n k : Int) : Prop := k = n
def cgo (g : Int → Int) (wo nk nl : Int) (S : Int → Prop) (r : Int) : Prop := ∃ c, (0 ≤ c ∧ c < g 121) ∧ c ≠ wo ∧ opn g S (eqn nk) (eqn nl) c ∧ (gA g c = r ∧ S (gB g c) ∨ gB g c = r ∧ S (gA g c))
noncomputable def nxt (g : Int → Int) (wo nk nl : Int) (S : Int → Prop) : Int := am (fun r => cgo g wo nk nl S r ∧ ¬ S r) (dif g) (g 120)
noncomputable def vp (g : Int → Int) (wo nk nl : Int) (n : Nat) : (Int → Prop) × Int := match n with
  | 0 => (fun _ => False, if 0 < g 120 then g 122 else -1)
  | n + 1 => ((fun r => (vp g wo nk nl n).1 r ∨ r = (vp g wo nk nl n).2), nxt g wo nk nl (fun r => (vp g wo nk nl n).1 r ∨ r = (vp g wo nk nl n).2))
noncomputable def vS (g : Int → Int) (wo nk nl i : Int) : Int → Prop := (vp g wo nk nl i.toNat).1
noncomputable def vX (g : Int → Int) (wo nk nl i : Int) : Int := (vp g wo nk nl i.toNat).2
noncomputable def vN (g : Int → Int) (wo nk nl : Int) : Int := fs (fun i => vX g wo nk nl i = -1) 13
noncomputable def vT (g : Int → Int) (wo nk nl : Int) : Int → Prop := vS g wo nk nl (vN g wo nk nl)
def ent (g : Int → Int) (r : Int) : Prop := r = g 122 ∧ 0 < g 120
abbrev vC (g : Int → Int) (wo nk nl : Int) : Int → Prop := clo g wo (eqn nk) (eqn nl) (ent g)
section
variable {g : Int → Int} {wo nk nl i : Int}
theorem vS_0 (r : Int) : ¬ vS g wo nk nl 0 r := fun q => q
theorem vX_0 : vX g wo nk nl 0 = if 0 < g 120 then g 122 else -1 := rfl
theorem vS_s (h : 0 ≤ i) (r : Int) : vS g wo nk nl (i + 1) r ↔ vS g wo nk nl i r ∨ r = vX g wo nk nl i := by
  unfold vS vX
  rw [toN_s h]
  exact Iff.rfl
theorem vX_s (h : 0 ≤ i) : vX g wo nk nl (i + 1) = nxt g wo nk nl (vS g wo nk nl (i + 1)) := by
  unfold vS vX
  rw [toN_s h]
  rfl
theorem ent_rg (hw : WF g) {r : Int} (h : ent g r) : 0 ≤ r ∧ r < g 120 := by
  have := wf_E hw
  unfold ent at h
  omega
def VP (g : Int → Int) (wo nk nl i : Int) : Prop := i ≤ cn (vS g wo nk nl i) (g 120) ∧ (∀ r, vS g wo nk nl i r → vC g wo nk nl r) ∧ (vX g wo nk nl i = -1 ∨ (0 ≤ vX g wo nk nl i ∧ vX g wo nk nl i < g 120) ∧ ¬ vS g wo nk nl i (vX g wo nk nl i) ∧ vC g wo nk nl (vX g wo nk nl i))
theorem vI (hw : WF g) : ∀ n : Nat, (∀ j : Int, 0 ≤ j → j < n → vX g wo nk nl j ≠ -1) → VP g wo nk nl n
  | 0, _ => by
    have hE := wf_E hw
    refine ⟨(cn_le (wf_R hw).1).1, fun r q => absurd q (vS_0 r), ?_⟩
    show vX g wo nk nl 0 = -1 ∨ (0 ≤ vX g wo nk nl 0 ∧ vX g wo nk nl 0 < g 120) ∧ ¬ vS g wo nk nl 0 (vX g wo nk nl 0) ∧ vC g wo nk nl (vX g wo nk nl 0)
    rw [vX_0]
    by_cases h : 0 < g 120
    · rw [if_pos h]
      exact Or.inr ⟨by omega, vS_0 _, clo_F ⟨rfl, h⟩⟩
    · rw [if_neg h]
      exact Or.inl rfl
  | n + 1, h => by
    have hR := wf_R hw
    obtain ⟨p1, p2, p3⟩ := vI hw n (fun j h0 h1 => h j h0 (by omega))
    have p3 := p3.resolve_left (h n (by omega) (by omega))
    have e : ((n + 1 : Nat) : Int) = (n : Int) + 1 := by omega
    rw [e]
    have q2 : ∀ r, vS g wo nk nl ((n : Int) + 1) r → vC g wo nk nl r := by
      intro r q
      rcases (vS_s (by omega) r).1 q with q | q
      · exact p2 r q
      · rw [q]; exact p3.2.2
    refine ⟨?_, q2, ?_⟩
    · have := cn_lt (p := vS g wo nk nl n) (q := vS g wo nk nl ((n : Int) + 1)) p3.1 ((vS_s (by omega) _).2 (Or.inr rfl)) p3.2.1 (fun r _ _ q => (vS_s (by omega) r).2 (Or.inl q))
      omega
    · rw [vX_s (by omega)]
      rcases am_sp (p := fun r => cgo g wo nk nl (vS g wo nk nl ((n : Int) + 1)) r ∧ ¬ vS g wo nk nl ((n : Int) + 1) r) (f := dif g) hR.1 with k | ⟨k1, k2, k3⟩
      · exact Or.inl k.1
      · refine Or.inr ⟨k1, k3, ?_⟩
        obtain ⟨c, c1, c2, c3, c4⟩ := k2
        have cc := clo_cls (g := g) (wo := wo) (kg := eqn nk) (lg := eqn nl) (F := ent g) c c1.1 c1.2 c2 (opn_mo (fun r _ _ q => q2 r q) c3)
        unfold nxt
        rcases c4 with ⟨c4, c5⟩ | ⟨c4, c5⟩
        · rw [← c4]; exact cc.2 (q2 _ c5)
        · rw [← c4]; exact cc.1 (q2 _ c5)
theorem vI' (hw : WF g) (h0 : 0 ≤ i) (h : ∀ j, 0 ≤ j → j < i → vX g wo nk nl j ≠ -1) : VP g wo nk nl i := by
  have := vI (wo := wo) (nk := nk) (nl := nl) hw i.toNat (fun j h1 h2 => h j h1 (by omega))
  rw [Int.toNat_of_nonneg h0] at this
  exact this
theorem v_le (hw : WF g) (h0 : 0 ≤ i) (h : ∀ j, 0 ≤ j → j < i → vX g wo nk nl j ≠ -1) : i ≤ g 120 := by
  have h1 := (vI' hw h0 h).1
  have h2 := cn_le (p := vS g wo nk nl i) (wf_R hw).1
  omega
theorem v_end (hw : WF g) (h0 : g 120 ≤ i) (h : ∀ j, 0 ≤ j → j < i → vX g wo nk nl j ≠ -1) : vX g wo nk nl i = -1 := by
  have hR := wf_R hw
  have k := vI' hw (by omega) h
  rcases k.2.2 with q | ⟨q1, q2, _⟩
  · exact q
  · exact absurd (cn_all hR.1 (by have := k.1; omega) q1) q2
theorem vN_at (h0 : 0 ≤ i ∧ i ≤ 12) (h : ∀ j, 0 ≤ j → j < i → vX g wo nk nl j ≠ -1) (k : vX g wo nk nl i = -1) : vN g wo nk nl = i := fs_at (by omega) k h
theorem vN_sp (hw : WF g) : (0 ≤ vN g wo nk nl ∧ vN g wo nk nl ≤ g 120) ∧ vX g wo nk nl (vN g wo nk nl) = -1 ∧ ∀ j, 0 ≤ j → j < vN g wo nk nl → vX g wo nk nl j ≠ -1 := by
  have hR := wf_R hw
  rcases fs_sp (p := fun i => vX g wo nk nl i = -1) (n := 13) (by omega) with k | ⟨k1, k2, k3⟩
  · exact absurd (v_end hw (Int.le_refl _) (fun j h0 h1 => k.2 j h0 (by omega))) (k.2 _ hR.1 (by omega))
  · exact ⟨⟨k1.1, v_le hw k1.1 k3⟩, k2, k3⟩
theorem vX_rg (hw : WF g) (h : 0 ≤ i ∧ i < vN g wo nk nl) : 0 ≤ vX g wo nk nl i ∧ vX g wo nk nl i < g 120 := by
  obtain ⟨k1, k2, k3⟩ := vN_sp (wo := wo) (nk := nk) (nl := nl) hw
  exact ((vI' hw h.1 (fun j h0 h1 => k3 j h0 (by omega))).2.2.resolve_left (k3 i h.1 h.2)).1
theorem vS_mo (h0 : 0 ≤ i) (r : Int) (q : vS g wo nk nl i r) : ∀ n : Nat, vS g wo nk nl (i + n) r
  | 0 => by rw [show i + ((0 : Nat) : Int) = i by omega]; exact q
  | n + 1 => by
    rw [show i + ((n + 1 : Nat) : Int) = i + n + 1 by omega]
    exact (vS_s (by omega) r).2 (Or.inl (vS_mo h0 r q n))
/-- the rooms visited are those of the least closed set -/
theorem vT_clo (hw : WF g) (r : Int) : vT g wo nk nl r ↔ vC g wo nk nl r := by
  obtain ⟨k1, k2, k3⟩ := vN_sp (wo := wo) (nk := nk) (nl := nl) hw
  have hE := wf_E hw
  refine ⟨(vI' hw k1.1 k3).2.1 r, fun q => clo_min ?_ ?_ q⟩
  · rintro s ⟨h1, h2⟩
    have e : vX g wo nk nl 0 = g 122 := by rw [vX_0, if_pos h2]
    have h3 : 1 ≤ vN g wo nk nl := by
      refine Int.not_lt.1 fun z => ?_
      rw [show vN g wo nk nl = 0 by omega, e] at k2
      omega
    have h4 : vS g wo nk nl (0 + 1) s := (vS_s (Int.le_refl 0) s).2 (Or.inr (h1.trans e.symm))
    have h5 := vS_mo (by omega) s h4 (vN g wo nk nl - 1).toNat
    rw [show (0 : Int) + 1 + ((vN g wo nk nl - 1).toNat : Int) = vN g wo nk nl by omega] at h5
    exact h5
  · intro c c0 c1 c2 c3
    have hab := wf_ab hw ⟨c0, c1⟩
    by_cases e : vN g wo nk nl = 0
    · rw [e, vX_0, if_pos (by omega)] at k2
      omega
    · have h1 := vX_s (g := g) (wo := wo) (nk := nk) (nl := nl) (i := vN g wo nk nl - 1) (by omega)
      rw [show vN g wo nk nl - 1 + 1 = vN g wo nk nl by omega, k2] at h1
      rcases am_sp (p := fun r => cgo g wo nk nl (vS g wo nk nl (vN g wo nk nl)) r ∧ ¬ vS g wo nk nl (vN g wo nk nl) r) (f := dif g) (wf_R hw).1 with k | ⟨k4, _⟩
      · constructor
        · intro q
          refine Classical.byContradiction fun z => ?_
          exact k.2 (gB g c) (by omega) (by omega) ⟨⟨c, ⟨c0, c1⟩, c2, c3, Or.inr ⟨rfl, q⟩⟩, z⟩
        · intro q
          refine Classical.byContradiction fun z => ?_
          exact k.2 (gA g c) (by omega) (by omega) ⟨⟨c, ⟨c0, c1⟩, c2, c3, Or.inl ⟨rfl, q⟩⟩, z⟩
      · unfold nxt at h1
        omega
theorem opn_1 {S : Int → Prop} {c : Int} : opn g S (eqn (-1)) (eqn (-1)) c ↔ gL g c = -1 ∨ kof g S (gL g c) := by
  constructor
  · rintro (k | ⟨k, _⟩ | k)
    · exact Or.inl k
    · exact Or.inr k
    · exact Or.inl k
  · intro k
    by_cases e : gL g c = -1
    · exact Or.inl e
    · exact Or.inr (Or.inl ⟨k.resolve_left e, e⟩)
end
section
variable {d : Nat} {M : ZM} {g : Int → Int}
theorem x_bordering {x : Int} {S : Int → Prop} (hw : WF g) (hd : dgr M 1 g) (h : ST x S) : ∃ v, E (d + 3) 46 [zR 1, zI x] M = Rt (some (zI v)) M ∧ ST v (fun r => cgo g (-1) (-1) (-1) S r ∧ ¬ S r) := by
  have hW := wf_W hw
  have hR := wf_R hw
  obtain ⟨kv, k1, k2⟩ := x_keysIn (d := d) hw hd h
  rw [en_46, q_46_0, k1, Cb_I, q_46_5]
  refine lpi (fun i (s : Int × ZV) => Q (d + 2) 46 11 [zR 1, zI x, zI kv, zI s.1, zI i, s.2] [] M) (fun o => ∃ v, o = Rt (some (zI v)) M ∧ ST v (fun r => cgo g (-1) (-1) (-1) S r ∧ ¬ S r)) (g 121) (fun i s => ST s.1 (fun r => ∃ c, (0 ≤ c ∧ c < i) ∧ opn g S (eqn (-1)) (eqn (-1)) c ∧ (S (gA g c) ∨ S (gB g c)) ∧ (r = gA g c ∨ r = gB g c))) ?_ ?_ 0 (0, zU) (by omega) (ST_cg ST_0 (fun i _ _ => ⟨fun q => q.elim, fun ⟨c, h0, _⟩ => by omega⟩))
  · rintro i ⟨v, z⟩ h0 h1 h2
    dsimp only at h2 ⊢
    refine Or.inr ?_
    have hab := wf_ab hw ⟨h0, h1⟩
    have hmeet : zand (zor (zshl 1 (gA g i)) (zshl 1 (gB g i))) x = 0 ↔ ¬ (S (gA g i) ∨ S (gB g i)) := by
      rw [ST_eq0 (ST_and (ST_ab hw ⟨h0, h1⟩) h)]
      constructor
      · rintro q (k | k)
        · exact q _ (by omega) (by omega) ⟨Or.inl rfl, k⟩
        · exact q _ (by omega) (by omega) ⟨Or.inr rfl, k⟩
      · rintro q j _ _ ⟨k | k, l⟩
        · exact q (Or.inl (k ▸ l))
        · exact q (Or.inr (k ▸ l))
    have skip : ¬ ((S (gA g i) ∨ S (gB g i)) ∧ opn g S (eqn (-1)) (eqn (-1)) i) → ST v (fun r => ∃ c, (0 ≤ c ∧ c < i + 1) ∧ opn g S (eqn (-1)) (eqn (-1)) c ∧ (S (gA g c) ∨ S (gB g c)) ∧ (r = gA g c ∨ r = gB g c)) := by
      intro q
      refine ST_cg h2 (fun r _ _ => ⟨fun ⟨c, c1, c2⟩ => ⟨c, by omega, c2⟩, fun ⟨c, c1, c2, c3, c4⟩ => ?_⟩)
      by_cases e : c = i
      · subst e
        exact absurd ⟨c3, c2⟩ q
      · exact ⟨c, by omega, c2, c3, c4⟩
    rw [q_46_11, h1W hd, if_neg (by omega), if_pos (by omega), if_pos (by omega), h1a hd ⟨h0, h1⟩, h1b hd ⟨h0, h1⟩]
    by_cases e2 : S (gA g i) ∨ S (gB g i)
    · rw [if_neg (fun q => hmeet.1 q e2), x_opens hw hd ⟨h0, h1⟩ k2, Cb_I, q_46_55]
      by_cases e3 : opn g S (eqn (-1)) (eqn (-1)) i
      · refine ⟨(zor v (zor (zshl 1 (gA g i)) (zshl 1 (gB g i))), zI (zor (zshl 1 (gA g i)) (zshl 1 (gB g i)))), by rw [if_neg (bI_n0.2 (opn_1.1 e3)), zw_id (by omega)], ?_⟩
        refine ST_cg (ST_or h2 (ST_ab hw ⟨h0, h1⟩)) (fun r _ _ => ⟨?_, ?_⟩)
        · rintro (⟨c, c1, c2⟩ | q)
          · exact ⟨c, by omega, c2⟩
          · exact ⟨i, by omega, e3, e2, q⟩
        · rintro ⟨c, c1, c2, c3, c4⟩
          by_cases e : c = i
          · subst e
            exact Or.inr c4
          · exact Or.inl ⟨c, by omega, c2, c3, c4⟩
      · exact ⟨(v, zI (zor (zshl 1 (gA g i)) (zshl 1 (gB g i)))), by rw [if_pos (bI_0.2 (fun q => e3 (opn_1.2 q))), zw_id (by omega)], skip (fun q => e3 q.2)⟩
    · exact ⟨(v, zI (zor (zshl 1 (gA g i)) (zshl 1 (gB g i)))), by rw [if_pos (hmeet.2 e2), zw_id (by omega)], skip (fun q => e2 q.1)⟩
  · rintro ⟨v, z⟩ h2
    dsimp only at h2 ⊢
    refine ⟨_, by rw [q_46_11, h1W hd, if_pos (Int.le_refl _)], ST_cg (ST_dif h2 h) (fun r _ _ => and_congr_left fun nr => ⟨?_, ?_⟩)⟩
    · rintro ⟨c, c1, c2, c3, c4⟩
      refine ⟨c, c1, by omega, c2, ?_⟩
      rcases c4 with e | e
      · exact Or.inl ⟨e.symm, c3.resolve_left (e ▸ nr)⟩
      · exact Or.inr ⟨e.symm, c3.resolve_right (e ▸ nr)⟩
    · rintro ⟨c, c1, _, c2, c3⟩
      rcases c3 with ⟨e, k⟩ | ⟨e, k⟩
      · exact ⟨c, c1, c2, Or.inr k, Or.inl e.symm⟩
      · exact ⟨c, c1, c2, Or.inl k, Or.inr e.symm⟩
theorem x_easiest {x : Int} {S : Int → Prop} (hw : WF g) (hd : dgr M 1 g) (h : ST x S) (hD : ∀ r, 0 ≤ r → r < g 120 → M 122 r = dif g r) : E (d + 4) 45 [zR 120, zR 1, zI x] M = Rt (some (zI (nxt g (-1) (-1) (-1) S))) M := by
  have hR := wf_R hw
  obtain ⟨nv, k1, k2⟩ := x_bordering (d := d) hw hd h
  rw [en_45, q_45_0, k1, Cb_I, q_45_5]
  refine (lpv (fun i a => Q (d + 3) 45 12 [zR 120, zR 1, zI x, zI nv, zI a, zI i] [] M) (fun i => am (fun r => cgo g (-1) (-1) (-1) S r ∧ ¬ S r) (dif g) i) (g 120) hR.1 ?_).trans ?_
  · intro i h0 h1
    rw [q_45_12, h1R hd, if_neg (by omega), x_holds k2 (by omega), Cb_I, q_45_27]
    rcases am_sp (p := fun r => cgo g (-1) (-1) (-1) S r ∧ ¬ S r) (f := dif g) h0 with q | q
    · by_cases e : cgo g (-1) (-1) (-1) S i ∧ ¬ S i
      · rw [am_y h0 e (Or.inl q.1), q.1, if_neg (bI_n0.2 e), if_pos rfl, zw_id (by omega)]
      · rw [am_n h0 (fun z => e z.1), if_pos (bI_0.2 e), zw_id (by omega)]
    · by_cases e : cgo g (-1) (-1) (-1) S i ∧ ¬ S i
      · rw [if_neg (bI_n0.2 e), if_neg (by omega), if_pos (by omega), if_pos (by omega), hD _ q.1.1 (by omega), hD _ h0 h1]
        by_cases l : dif g i < dif g (am (fun r => cgo g (-1) (-1) (-1) S r ∧ ¬ S r) (dif g) i)
        · rw [am_y h0 e (Or.inr l), if_neg (by omega), zw_id (by omega)]
        · rw [am_n h0 (fun z => z.2.elim (fun w => by omega) l), if_pos (by omega), zw_id (by omega)]
      · rw [am_n h0 (fun z => e z.1), if_pos (bI_0.2 e), zw_id (by omega)]
  · rw [q_45_12, h1R hd, if_pos (Int.le_refl _)]
    rfl
/-- what a survey leaves -/
def srv (M : ZM) (g : Int → Int) : Prop := (∀ r, 0 ≤ r → r < g 120 → M 121 r = dpt g r) ∧ (∀ r, 0 ≤ r → r < g 120 → M 122 r = dif g r) ∧ M 120 4 = vN g (-1) (-1) (-1) ∧ ∀ j, 0 ≤ j → j < vN g (-1) (-1) (-1) → M 123 j = vX g (-1) (-1) (-1) j
theorem x_survey (hw : WF g) (hd : dgr M 1 g) : ∃ M', E (d + 5) 43 [zR 120, zR 1] M = Rt none M' ∧ frr 120 124 M M' ∧ srv M' g := by
  have hR := wf_R hw
  have hE := wf_E hw
  obtain ⟨M1, e1, f1, a1⟩ := x_measure (d := d + 2) (M := M) (g := g) (r := 121) rfl rfl (by omega) hw hd hE.1
  have f1' : frr 120 124 M M1 := frr_1 f1 (by omega) (by omega)
  rw [en_43, q_43_0, h1E hd, e1, Cb_V, q_43_12]
  refine lpi (fun i M2 => Q (d + 4) 43 14 [zR 120, zR 1, zI i, zU, zU] [] M2) (fun o => ∃ M', o = Rt none M' ∧ frr 120 124 M M' ∧ srv M' g) (g 120) (fun i M2 => frr 120 124 M M2 ∧ (∀ r, 0 ≤ r → r < g 120 → M2 121 r = dpt g r) ∧ (∀ r, 0 ≤ r → r < i → M2 122 r = dif g r)) ?_ ?_ 0 M1 (by omega) ⟨f1', fun r h0 h1 => a1 r h0 (by omega), fun r h0 h1 => absurd h1 (by omega)⟩
  · rintro i M2 h0 h1 ⟨f2, a2, b2⟩
    have hd2 := frr_d f2 (by omega) hd
    refine Or.inr ⟨zwr M2 122 i (dif g i), ?_, frr_w f2 (by omega) (by omega), fun r r0 r1 => ?_, fun r r0 r1 => ?_⟩
    · rw [q_43_14, h1R hd2, if_neg (by omega), if_pos (by omega), a2 i h0 h1, x_rate hw hd2 ⟨h0, h1⟩, Cb_I, q_43_38, if_pos (by omega), zw_id (by omega)]
    · rw [zwr_ne (by decide)]
      exact a2 r r0 r1
    · by_cases e : r = i
      · rw [e, zwr_at]
      · rw [zwr_nj e]
        exact b2 r r0 (by omega)
  · rintro M2 ⟨f2, a2, b2⟩
    have hd2 := frr_d f2 (by omega) hd
    have f3 : frr 120 124 M (zwr M2 120 4 0) := frr_w f2 (by omega) (by omega)
    have hd3 := frr_d f3 (by omega) hd
    have go : Q (d + 4) 43 14 [zR 120, zR 1, zI (g 120), zU, zU] [] M2 = Q (d + 4) 43 71 [zR 120, zR 1, zI 0, zI (vX g (-1) (-1) (-1) 0), zI 0] [] (zwr M2 120 4 0) := by
      rw [q_43_14, h1R hd2, if_pos (Int.le_refl _), h1R hd3, h1E hd3, vX_0]
      by_cases e : g 120 = 0
      · rw [if_neg (by omega), if_neg (by omega)]
      · rw [if_pos e, if_pos (by omega)]
    have a3 : ∀ r, 0 ≤ r → r < g 120 → (zwr M2 120 4 0) 121 r = dpt g r := fun r r0 r1 => by rw [zwr_ne (by decide)]; exact a2 r r0 r1
    have b3 : ∀ r, 0 ≤ r → r < g 120 → (zwr M2 120 4 0) 122 r = dif g r := fun r r0 r1 => by rw [zwr_ne (by decide)]; exact b2 r r0 r1
    have c3 : (zwr M2 120 4 0) 120 4 = 0 := zwr_at
    rw [go]
    refine lpi (fun i (s : ZM × Int × Int) => Q (d + 4) 43 71 [zR 120, zR 1, zI s.2.1, zI s.2.2, zI i] [] s.1) (fun o => ∃ M', o = Rt none M' ∧ frr 120 124 M M' ∧ srv M' g) (g 120) (fun i s => frr 120 124 M s.1 ∧ (∀ r, 0 ≤ r → r < g 120 → s.1 121 r = dpt g r) ∧ (∀ r, 0 ≤ r → r < g 120 → s.1 122 r = dif g r) ∧ s.1 120 4 = i ∧ (∀ j, 0 ≤ j → j < i → s.1 123 j = vX g (-1) (-1) (-1) j) ∧ s.2.2 = vX g (-1) (-1) (-1) i ∧ ST s.2.1 (vS g (-1) (-1) (-1) i) ∧ ∀ j, 0 ≤ j → j < i → vX g (-1) (-1) (-1) j ≠ -1) ?_ ?_ 0 (zwr M2 120 4 0, 0, vX g (-1) (-1) (-1) 0) (by omega) ⟨f3, a3, b3, c3, fun j j0 j1 => absurd j1 (by omega), rfl, ST_cg ST_0 (fun i _ _ => Iff.rfl), fun j j0 j1 => absurd j1 (by omega)⟩
    · rintro i ⟨M4, v, x⟩ h0 h1 ⟨f4, a4, b4, c4, o4, n4, s4, t4⟩
      dsimp only at f4 a4 b4 c4 o4 n4 s4 ⊢
      subst n4
      have hd4 := frr_d f4 (by omega) hd
      rw [q_43_71, h1R hd4, if_neg (by omega)]
      by_cases e : vX g (-1) (-1) (-1) i = -1
      · refine Or.inl ⟨M4, by rw [if_pos e], f4, a4, b4, ?_, ?_⟩
        · rw [c4, vN_at (by omega) t4 e]
        · rw [vN_at (by omega) t4 e]
          exact o4
      · have rg := ((vI' hw h0 t4).2.2.resolve_left e).1
        have s5 : ST (zor v (zshl 1 (vX g (-1) (-1) (-1) i))) (vS g (-1) (-1) (-1) (i + 1)) := ST_cg (ST_or s4 (ST_1 (by omega))) (fun r _ _ => (vS_s h0 r).symm)
        have f5 : frr 120 124 M (zwr (zwr M4 123 i (vX g (-1) (-1) (-1) i)) 120 4 (i + 1)) := frr_w (frr_w f4 (by omega) (by omega)) (by omega) (by omega)
        refine Or.inr ⟨(zwr (zwr M4 123 i (vX g (-1) (-1) (-1) i)) 120 4 (i + 1), zor v (zshl 1 (vX g (-1) (-1) (-1) i)), vX g (-1) (-1) (-1) (i + 1)), ?_, f5, fun r r0 r1 => ?_, fun r r0 r1 => ?_, by dsimp only; exact zwr_at, fun j j0 j1 => ?_, rfl, s5, fun j j0 j1 => ?_⟩
        · rw [if_neg e, if_pos (by omega), zwr_ne (by decide), c4, zw_id (x := i + 1) (by omega), x_easiest hw (frr_d f5 (by omega) hd) s5 (fun r r0 r1 => by rw [zwr_ne (by decide), zwr_ne (by decide)]; exact b4 r r0 r1), Cb_I, q_43_115, ← vX_s h0, zw_id (by omega)]
        · dsimp only
          rw [zwr_ne (by decide), zwr_ne (by decide)]
          exact a4 r r0 r1
        · dsimp only
          rw [zwr_ne (by decide), zwr_ne (by decide)]
          exact b4 r r0 r1
        · show zwr (zwr M4 123 i (vX g (-1) (-1) (-1) i)) 120 4 (i + 1) 123 j = _
          rw [zwr_ne (by decide)]
          by_cases k : j = i
          · rw [k, zwr_at]
          · rw [zwr_nj k]
            exact o4 j j0 (by omega)
        · by_cases k : j = i
          · rw [k]; exact e
          · exact t4 j j0 (by omega)
    · rintro ⟨M4, v, x⟩ ⟨f4, a4, b4, c4, o4, n4, s4, t4⟩
      dsimp only at f4 a4 b4 c4 o4 n4 s4 ⊢
      have e := v_end hw (Int.le_refl _) t4
      have k := vN_at (by omega) t4 e
      refine ⟨M4, by rw [q_43_71, h1R (frr_d f4 (by omega) hd), if_pos (Int.le_refl _)], f4, a4, b4, by rw [c4, k], by rw [k]; exact o4⟩
end
