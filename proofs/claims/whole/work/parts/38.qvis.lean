/-! the questions about visits, depths and difficulties -/
def xq (d k : Nat) (as : List ZV) (M : ZM) (v : ZV) : Prop := ∃ M', E d k as M = Rt (some v) M' ∧ frr 109 137 M M'
def mq (d k : Nat) (as : List ZV) (M : ZM) (v : ZV) : Prop := ∃ M', E d k as M = Rt (some v) M' ∧ fm M M'
/-- a question that both answer alike -/
def qok (d kx km : Nat) (as : List ZV) (M : ZM) : Prop := ∃ v M1 M2, E d kx (zR 0 :: as) M = Rt (some v) M1 ∧ frr 109 137 M M1 ∧ E d km (zR 138 :: as) M1 = Rt (some v) M2 ∧ fm M1 M2
theorem qok_of {d kx km : Nat} {as : List ZV} {M : ZM} {v : ZV} (h1 : xq d kx (zR 0 :: as) M v) (h2 : ∀ M1, frr 109 137 M M1 → mq d km (zR 138 :: as) M1 v) : qok d kx km as M := by
  obtain ⟨M1, e1, f1⟩ := h1
  obtain ⟨M2, e2, f2⟩ := h2 M1 f1
  exact ⟨v, M1, M2, e1, f1, e2, f2⟩
theorem fx_g {M M1 : ZM} (h : frr 109 137 M M1) : M1 139 = M 139 := h 139 (by omega)
def itzN (f : Int → Int) (n : Nat) : Int := match n with
  | 0 => 0
  | n + 1 => zw (itzN f n + f n)
def itz (f : Int → Int) (n : Int) : Int := itzN f n.toNat
theorem itz_s {f : Int → Int} {n : Int} (h : 0 ≤ n) : itz f (n + 1) = zw (itz f n + f n) := by
  unfold itz
  rw [toN_s h]
  show zw (itzN f n.toNat + f (n.toNat : Int)) = _
  rw [Int.toNat_of_nonneg h]
/-- an index that goes up from 1 beside a value -/
theorem lpv1 {σ β : Type} (F : Int → σ → β) (v : Int → σ) (n : Int) (h0 : 1 ≤ n) (hs : ∀ i, 1 ≤ i → i < n → F i (v i) = F (i + 1) (v (i + 1))) : F 1 (v 1) = F n (v n) := by
  refine (lpi (fun i s => F (i + 1) s) (fun o => o = F n (v n)) (n - 1) (fun i s => s = v (i + 1)) ?_ ?_ 0 (v 1) (by omega) rfl)
  · intro i s h1 h2 h3
    subst h3
    exact Or.inr ⟨_, hs (i + 1) (by omega) (by omega), rfl⟩
  · intro s h
    rw [h, show n - 1 + 1 = n by omega]
theorem clo_q {g : Int → Int} {wo : Int} {kg lg kg' lg' F : Int → Prop} (hw : WF g) (h1 : ∀ k, 0 ≤ k → (kg k ↔ kg' k)) (h2 : ∀ k, 0 ≤ k → (lg k ↔ lg' k)) (r : Int) : clo g wo kg lg F r ↔ clo g wo kg' lg' F r := by
  refine clo_cg (fun S c c0 c1 => ?_) r
  have hl := wf_l hw ⟨c0, c1⟩
  unfold opn
  by_cases e : gL g c = -1
  · exact ⟨fun _ => Or.inl e, fun _ => Or.inl e⟩
  · rw [h1 _ (by omega), h2 _ (by omega)]
section
variable {d : Nat} {M : ZM} {g : Int → Int}
theorem x_visitable {kx lx : Int} {kg lg : Int → Prop} (hw : WF g) (hd : dgr M 1 g) (hk : ST kx kg) (hl : ST lx lg) : ∃ v, E (d + 4) 76 [zR 1, zI kx, zI lx] M = Rt (some (zI v)) M ∧ ST v (clo g (-1) kg lg (ent g)) := by
  obtain ⟨v0, e0, s0⟩ := x_entranceSet (d := d + 2) hw hd
  obtain ⟨v, e, s⟩ := x_spread (d := d) (wo := -1) hw hd (F := ent g) (fun r h => ent_rg hw h) (fun h => ⟨g 122, rfl, h⟩) s0 hk hl
  exact ⟨v, by rw [en_76, q_76_0, e0, Cb_I, q_76_5, e, Cb_I, q_76_11], s⟩
theorem xq_depth {r : Int} (hw : WF g) (hd : dgr M 1 g) : xq (d + 12) 127 [zR 0, zI r] M (zI (if 0 ≤ r ∧ r < g 120 then dpt g r else -101)) := by
  have hR := wf_R hw
  unfold xq
  rw [en_127, q_127_0, x_hasRoom hd, Cb_I, q_127_8]
  by_cases h : 0 ≤ r ∧ r < g 120
  · obtain ⟨M1, e1, f1, s1⟩ := x_survey (d := d + 6) hw hd
    refine ⟨M1, ?_, frr_v f1 (by omega) (by omega)⟩
    rw [if_pos (bI_n0.2 h), e1, Cb_V, q_127_25, if_pos (by omega), s1.1 r h.1 h.2, if_pos h]
  · refine ⟨M, ?_, frr_r⟩
    rw [if_neg (fun q => q (bI_0.2 h)), if_neg h]
theorem mq_depth {r : Int} (hw : WF (M 139)) : mq (d + 12) 224 [zR 138, zI r] M (zI (if 0 ≤ r ∧ r < M 139 120 then dpt (M 139) r else -101)) := by
  have hR := wf_R hw
  unfold mq
  rw [en_224, q_224_0, m_isRoom _ hR, Cb_I, q_224_5]
  by_cases h : 0 ≤ r ∧ r < M 139 120
  · obtain ⟨M1, e1, f1⟩ := m_depthOf (d := d + 8) hw h
    refine ⟨M1, ?_, fm_1 f1 (by omega)⟩
    rw [if_neg (bI_n0.2 h), e1, Cb_I, q_224_13, if_pos h]
  · refine ⟨M, ?_, fm_r⟩
    rw [if_pos (bI_0.2 h), if_neg h]
theorem o_depth {r : Int} (hw : WF (M 139)) (hd : dgr M 1 (M 139)) : qok (d + 12) 127 224 [zI r] M := qok_of (xq_depth hw hd) (fun M1 f => by
  have e := fx_g f
  rw [← e] at hw ⊢
  exact mq_depth hw)
theorem xq_difficulty {r : Int} (hw : WF g) (hd : dgr M 1 g) : xq (d + 12) 128 [zR 0, zI r] M (zI (if 0 ≤ r ∧ r < g 120 then dif g r else -101)) := by
  have hR := wf_R hw
  unfold xq
  rw [en_128, q_128_0, x_hasRoom hd, Cb_I, q_128_8]
  by_cases h : 0 ≤ r ∧ r < g 120
  · obtain ⟨M1, e1, f1, s1⟩ := x_survey (d := d + 6) hw hd
    refine ⟨M1, ?_, frr_v f1 (by omega) (by omega)⟩
    rw [if_pos (bI_n0.2 h), e1, Cb_V, q_128_25, if_pos (by omega), s1.2.1 r h.1 h.2, if_pos h]
  · refine ⟨M, ?_, frr_r⟩
    rw [if_neg (fun q => q (bI_0.2 h)), if_neg h]
theorem mq_difficulty {r : Int} (hw : WF (M 139)) : mq (d + 12) 225 [zR 138, zI r] M (zI (if 0 ≤ r ∧ r < M 139 120 then dif (M 139) r else -101)) := by
  have hR := wf_R hw
  unfold mq
  rw [en_225, q_225_0, m_isRoom _ hR, Cb_I, q_225_5]
  by_cases h : 0 ≤ r ∧ r < M 139 120
  · obtain ⟨M1, e1, f1⟩ := m_difficultyOf (d := d + 7) hw h
    refine ⟨M1, ?_, fm_1 f1 (by omega)⟩
    rw [if_neg (bI_n0.2 h), e1, Cb_I, q_225_13, if_pos h]
  · refine ⟨M, ?_, fm_r⟩
    rw [if_pos (bI_0.2 h), if_neg h]
theorem o_difficulty {r : Int} (hw : WF (M 139)) (hd : dgr M 1 (M 139)) : qok (d + 12) 128 225 [zI r] M := qok_of (xq_difficulty hw hd) (fun M1 f => by
  have e := fx_g f
  rw [← e] at hw ⊢
  exact mq_difficulty hw)
theorem xq_visits (hw : WF g) (hd : dgr M 1 g) : xq (d + 12) 129 [zR 0] M (zI (vN g (-1) (-1) (-1))) := by
  obtain ⟨M1, e1, f1, s1⟩ := x_survey (d := d + 6) hw hd
  refine ⟨M1, ?_, frr_v f1 (by omega) (by omega)⟩
  rw [en_129, q_129_0, e1, Cb_V, q_129_11, s1.2.2.1]
theorem mq_visits (hw : WF (M 139)) (hg : M 139 = g) : mq (d + 12) 226 [zR 138] M (zI (vN g (-1) (-1) (-1))) := by
  obtain ⟨M1, e1, f1, s1⟩ := m_tell (d := d + 5) hw
  refine ⟨M1, ?_, f1⟩
  rw [en_226, q_226_0, e1, Cb_V, q_226_4, s1.1, hg]
theorem o_visits (hw : WF (M 139)) (hd : dgr M 1 (M 139)) : qok (d + 12) 129 226 [] M := qok_of (xq_visits hw hd) (fun M1 f => mq_visits (by rw [fx_g f]; exact hw) (fx_g f))
theorem x_hasVisit {i : Int} (s1 : srv M g) : E (d + 1) 47 [zR 120, zI i] M = Rt (some (zI (bI (0 ≤ i ∧ i < vN g (-1) (-1) (-1))))) M := by
  rw [en_47, q_47_0, s1.2.2.1]
  by_cases h : 0 ≤ i ∧ i < vN g (-1) (-1) (-1)
  · rw [bI_t h, if_neg (by omega), if_neg (by omega)]
  · rw [bI_f h]
    by_cases h1 : i < 0
    · rw [if_pos h1]
    · rw [if_neg h1, if_pos (by omega)]
theorem vN_rg (hw : WF g) {wo nk nl : Int} : 0 ≤ vN g wo nk nl ∧ vN g wo nk nl ≤ 12 := by
  have := (vN_sp (wo := wo) (nk := nk) (nl := nl) hw).1
  have := wf_R hw
  omega
theorem xq_visit {i : Int} (hw : WF g) (hd : dgr M 1 g) : xq (d + 12) 130 [zR 0, zI i] M (zI (if 0 ≤ i ∧ i < vN g (-1) (-1) (-1) then vX g (-1) (-1) (-1) i else -101)) := by
  have hN := vN_rg (wo := -1) (nk := -1) (nl := -1) hw
  obtain ⟨M1, e1, f1, s1⟩ := x_survey (d := d + 6) hw hd
  refine ⟨M1, ?_, frr_v f1 (by omega) (by omega)⟩
  rw [en_130, q_130_0, e1, Cb_V, q_130_11, x_hasVisit s1, Cb_I, q_130_19]
  by_cases h : 0 ≤ i ∧ i < vN g (-1) (-1) (-1)
  · rw [if_neg (bI_n0.2 h), if_pos (by omega), s1.2.2.2 i h.1 h.2, if_pos h]
  · rw [if_pos (bI_0.2 h), if_neg h]
theorem mq_visit {i : Int} (hw : WF (M 139)) (hg : M 139 = g) : mq (d + 12) 227 [zR 138, zI i] M (zI (if 0 ≤ i ∧ i < vN g (-1) (-1) (-1) then vX g (-1) (-1) (-1) i else -101)) := by
  have hN := vN_rg (wo := -1) (nk := -1) (nl := -1) hw
  obtain ⟨M1, e1, f1, s1⟩ := m_tell (d := d + 5) hw
  rw [hg] at s1 hN
  refine ⟨M1, ?_, f1⟩
  rw [en_227, q_227_0, e1, Cb_V, q_227_4, m_in, Cb_I, q_227_15, s1.1, zw_id (by omega)]
  by_cases h : 0 ≤ i ∧ i < vN g (-1) (-1) (-1)
  · rw [if_neg (bI_n0.2 (by omega)), if_pos (by omega), s1.2.1 i h.1 h.2, if_pos h]
  · rw [if_pos (bI_0.2 (by omega)), if_neg h]
theorem o_visit {i : Int} (hw : WF (M 139)) (hd : dgr M 1 (M 139)) : qok (d + 12) 130 227 [zI i] M := qok_of (xq_visit hw hd) (fun M1 f => mq_visit (by rw [fx_g f]; exact hw) (fx_g f))
noncomputable def vAt (g : Int → Int) (r : Int) : Int := fs (fun j => vX g (-1) (-1) (-1) j = r) (vN g (-1) (-1) (-1))
theorem xq_visitedAt {r : Int} (hw : WF g) (hd : dgr M 1 g) : xq (d + 12) 131 [zR 0, zI r] M (zI (if 0 ≤ r ∧ r < g 120 then if vAt g r = -1 then -104 else vAt g r else -101)) := by
  have hR := wf_R hw
  have hN := vN_rg (wo := -1) (nk := -1) (nl := -1) hw
  unfold xq
  rw [en_131, q_131_0, x_hasRoom hd, Cb_I, q_131_8]
  by_cases h : 0 ≤ r ∧ r < g 120
  · obtain ⟨M1, e1, f1, s1⟩ := x_survey (d := d + 6) hw hd
    refine ⟨M1, ?_, frr_v f1 (by omega) (by omega)⟩
    have l : E (d + 11) 48 [zR 120, zI r] M1 = Rt (some (zI (if vAt g r = -1 then -104 else vAt g r))) M1 := by
      rw [en_48, q_48_0]
      refine lpf (fun i => Q (d + 10) 48 2 [zR 120, zI r, zI i] [] M1) (fun j => vX g (-1) (-1) (-1) j = r) (fun v => Rt (some (zI (if v = -1 then -104 else v))) M1) (vN g (-1) (-1) (-1)) hN.1 ?_ ?_ ?_
      · intro i i0 i1 k
        rw [q_48_2, s1.2.2.1, if_neg (by omega), if_pos (by omega), s1.2.2.2 i i0 i1, if_pos k, zw_id (by omega)]
      · intro i i0 i1 k
        rw [q_48_2, s1.2.2.1, if_neg (by omega), if_pos (by omega), s1.2.2.2 i i0 i1, if_neg (fun z => z k), if_neg (by omega)]
      · rw [q_48_2, s1.2.2.1, if_pos (Int.le_refl _), if_pos rfl]
    rw [if_pos (bI_n0.2 h), e1, Cb_V, q_131_25, l, Cb_I, q_131_33, if_pos h]
  · refine ⟨M, ?_, frr_r⟩
    rw [if_neg (fun q => q (bI_0.2 h)), if_neg h]
theorem mq_visitedAt {r : Int} (hw : WF (M 139)) (hg : M 139 = g) : mq (d + 12) 228 [zR 138, zI r] M (zI (if 0 ≤ r ∧ r < g 120 then if vAt g r = -1 then -104 else vAt g r else -101)) := by
  have hR := wf_R hw
  have hN := vN_rg (wo := -1) (nk := -1) (nl := -1) hw
  unfold mq
  rw [en_228, q_228_0, m_isRoom _ hR, Cb_I, q_228_5, hg]
  rw [hg] at hN
  by_cases h : 0 ≤ r ∧ r < g 120
  · obtain ⟨M1, e1, f1, s1⟩ := m_tell (d := d + 5) hw
    rw [hg] at s1
    refine ⟨M1, ?_, f1⟩
    rw [if_pos (bI_n0.2 h), e1, Cb_V, q_228_15, if_pos h]
    refine lpf (fun i => Q (d + 11) 228 17 [zR 138, zI r, zI i] [] M1) (fun j => vX g (-1) (-1) (-1) j = r) (fun v => Rt (some (zI (if v = -1 then -104 else v))) M1) (vN g (-1) (-1) (-1)) hN.1 ?_ ?_ ?_
    · intro i i0 i1 k
      rw [q_228_17, s1.1, if_neg (by omega), if_pos (by omega), s1.2.1 i i0 i1, if_pos k, zw_id (by omega)]
    · intro i i0 i1 k
      rw [q_228_17, s1.1, if_neg (by omega), if_pos (by omega), s1.2.1 i i0 i1, if_neg (fun z => z k), if_neg (by omega)]
    · rw [q_228_17, s1.1, if_pos (Int.le_refl _), if_pos rfl]
  · refine ⟨M, ?_, fm_r⟩
    rw [if_neg (fun q => q (bI_0.2 h)), if_neg h]
theorem o_visitedAt {r : Int} (hw : WF (M 139)) (hd : dgr M 1 (M 139)) : qok (d + 12) 131 228 [zI r] M := qok_of (xq_visitedAt hw hd) (fun M1 f => mq_visitedAt (by rw [fx_g f]; exact hw) (fx_g f))
theorem xq_isSolvable (hw : WF g) (hd : dgr M 1 g) : xq (d + 12) 132 [zR 0] M (zI (if g 120 = 0 then -104 else if vN g (-1) (-1) (-1) = g 120 then 1 else 0)) := by
  unfold xq
  rw [en_132, q_132_0, h1R hd]
  by_cases h : g 120 = 0
  · exact ⟨M, by rw [if_neg (fun q => q h), if_pos h], frr_r⟩
  · obtain ⟨M1, e1, f1, s1⟩ := x_survey (d := d + 6) hw hd
    refine ⟨M1, ?_, frr_v f1 (by omega) (by omega)⟩
    rw [if_pos h, e1, Cb_V, q_132_24, s1.2.2.1, h1R (frr_d f1 (by omega) hd), if_neg h]
    by_cases k : vN g (-1) (-1) (-1) = g 120
    · rw [if_neg (fun q => q k), if_pos k]
    · rw [if_pos k, if_neg k]
theorem mq_isSolvable (hw : WF (M 139)) (hg : M 139 = g) : mq (d + 12) 229 [zR 138] M (zI (if g 120 = 0 then -104 else if vN g (-1) (-1) (-1) = g 120 then 1 else 0)) := by
  obtain ⟨M1, e1, f1, s1⟩ := m_tell (d := d + 5) hw
  rw [hg] at s1
  refine ⟨M1, ?_, f1⟩
  rw [en_229, q_229_0, e1, Cb_V, q_229_4, fm_g f1, hg, s1.1]
  by_cases h : g 120 = 0
  · rw [if_neg (fun q => q h), if_pos h]
  · rw [if_pos h, if_neg h]
    by_cases k : vN g (-1) (-1) (-1) = g 120
    · rw [if_neg (fun q => q k), if_pos k]
    · rw [if_pos k, if_neg k]
theorem o_isSolvable (hw : WF (M 139)) (hd : dgr M 1 (M 139)) : qok (d + 12) 132 229 [] M := qok_of (xq_isSolvable hw hd) (fun M1 f => mq_isSolvable (by rw [fx_g f]; exact hw) (fx_g f))
theorem clo_p (hw : WF g) (r : Int) : clo g (-1) (fun _ => False) (fun _ => False) (ent g) r ↔ vC g (-1) (-1) (-1) r := clo_q hw (fun k k0 => ⟨fun z => z.elim, fun z => by unfold eqn at z; omega⟩) (fun k k0 => ⟨fun z => z.elim, fun z => by unfold eqn at z; omega⟩) r
theorem o_keysFound (hw : WF (M 139)) (hd : dgr M 1 (M 139)) : qok (d + 12) 133 230 [] M := by
  obtain ⟨v, e, s⟩ := x_visitable (d := d + 7) hw hd ST_0 ST_0
  obtain ⟨w, e2, s2⟩ := x_keysIn (d := d + 9) hw hd s
  obtain ⟨M1, e1, f1, s1⟩ := m_tell (d := d + 5) hw
  have eq : w = M1 138 15 := by
    refine ST_un s2 s1.2.2.2 (fun k k0 _ => ⟨?_, ?_⟩)
    · rintro ⟨r, r0, r1, r2, r3⟩
      exact ⟨⟨r, r0, r1, (vT_clo hw r).2 ((clo_p hw r).1 r2), r3⟩, by omega⟩
    · rintro ⟨⟨r, r0, r1, r2, r3⟩, _⟩
      exact ⟨r, r0, r1, (clo_p hw r).2 ((vT_clo hw r).1 r2), r3⟩
  refine ⟨zI w, M, M1, ?_, frr_r, ?_, f1⟩
  · rw [en_133, q_133_0, e, Cb_I, q_133_13, e2, Cb_I, q_133_16]
  · rw [en_230, q_230_0, e1, Cb_V, q_230_4, eq]
theorem x_needed {r : Int} (hw : WF g) (hd : dgr M 1 g) (h : 0 ≤ r ∧ r < g 120) (hv : vC g (-1) (-1) (-1) r) : ∃ v, E (d + 12) 134 [zR 0, zI r] M = Rt (some (zI v)) M ∧ ST v (fun c => c < 6 ∧ ¬ vC g (-1) c (-1) r) := by
  have hR := wf_R hw
  obtain ⟨v, e, s⟩ := x_visitable (d := d + 7) hw hd ST_0 ST_0
  rw [en_134, q_134_0, x_hasRoom hd, Cb_I, q_134_8, if_pos (bI_n0.2 h), e, Cb_I, q_134_23, x_holds s (by omega), Cb_I, q_134_27, if_pos (bI_n0.2 ((clo_p hw r).2 hv))]
  refine lpi (fun i v => Q (d + 11) 134 37 [zR 0, zI r, zI v, zI i] [] M) (fun o => ∃ v, o = Rt (some (zI v)) M ∧ ST v (fun c => c < 6 ∧ ¬ vC g (-1) c (-1) r)) 6 (fun i v => ST v (fun c => c < i ∧ ¬ vC g (-1) c (-1) r)) ?_ ?_ 0 0 (by omega) (ST_cg ST_0 (fun c c0 _ => ⟨fun q => q.elim, fun q => by omega⟩))
  · intro i v i0 i1 h2
    refine Or.inr ?_
    obtain ⟨w, e2, s2⟩ := x_visitable (d := d + 7) hw hd (ST_1 (show 0 ≤ i ∧ i < 30 by omega)) ST_0
    have cq := clo_q (wo := -1) (F := ent g) (kg := fun k => k = i) (kg' := eqn i) (lg := fun _ => False) (lg' := eqn (-1)) hw (fun k _ => Iff.rfl) (fun k k0 => ⟨fun z => z.elim, fun z => by unfold eqn at z; omega⟩) r
    rw [q_134_37, if_neg (by omega), e2, Cb_I, q_134_54, x_holds s2 (by omega), Cb_I, q_134_58, zw_id (x := i + 1) (by omega)]
    by_cases q : vC g (-1) i (-1) r
    · rw [if_pos (bI_n0.2 (cq.2 q))]
      refine ⟨v, rfl, ST_cg h2 (fun c _ _ => ⟨fun z => ⟨by omega, z.2⟩, fun z => ⟨?_, z.2⟩⟩)⟩
      by_cases ec : c = i
      · rw [ec] at z
        exact absurd q z.2
      · omega
    · rw [if_neg (fun z => z (bI_0.2 (fun z => q (cq.1 z))))]
      refine ⟨_, rfl, ST_cg (ST_or h2 (ST_1 (by omega))) (fun c _ _ => ⟨?_, fun z => ?_⟩)⟩
      · rintro (z | z)
        · exact ⟨by omega, z.2⟩
        · rw [z]
          exact ⟨by omega, q⟩
      · by_cases ec : c = i
        · exact Or.inr ec
        · exact Or.inl ⟨by omega, z.2⟩
  · intro v h2
    exact ⟨v, by rw [q_134_37, if_pos (Int.le_refl _)], h2⟩
theorem m_needed {r : Int} (hw : WF (M 139)) (hg : M 139 = g) (h : 0 ≤ r ∧ r < g 120) (hv : vC g (-1) (-1) (-1) r) : ∃ v M', E (d + 12) 231 [zR 138, zI r] M = Rt (some (zI v)) M' ∧ fm M M' ∧ ST v (fun c => c < 6 ∧ ¬ vC g (-1) c (-1) r) := by
  have hR := wf_R hw
  obtain ⟨M1, e1, f1, s1⟩ := m_tell (d := d + 5) hw
  rw [en_231, q_231_0, m_isRoom _ hR, Cb_I, q_231_5]
  rw [hg] at s1 hw hR
  rw [hg, if_pos (bI_n0.2 h), e1, Cb_V, q_231_15, if_pos (by omega), s1.2.2.1 _ (by omega) (by omega), if_pos (bI_n0.2 ((vT_clo hw r).2 hv))]
  refine lpi (fun i (s : ZM × Int) => Q (d + 11) 231 31 [zR 138, zI r, zI s.2, zI i] [] s.1) (fun o => ∃ v M', o = Rt (some (zI v)) M' ∧ fm M M' ∧ ST v (fun c => c < 6 ∧ ¬ vC g (-1) c (-1) r)) 6 (fun i s => fm M s.1 ∧ ST s.2 (fun c => c < i ∧ ¬ vC g (-1) c (-1) r)) ?_ ?_ 0 (M1, 0) (by omega) ⟨f1, ST_cg ST_0 (fun c c0 _ => ⟨fun q => q.elim, fun q => by omega⟩)⟩
  · rintro i ⟨M2, v⟩ i0 i1 ⟨f2, h2⟩
    dsimp only at f2 h2 ⊢
    refine Or.inr ?_
    have g2 := (fm_g f2).trans hg
    obtain ⟨M3, e3, f3, s3⟩ := m_tellVisit (d := d + 6) (M := M2) (by rw [g2]; exact hw) (-1) i (-1)
    rw [g2] at s3
    rw [q_231_31, if_neg (by omega), e3, Cb_V, q_231_44, if_pos (by omega), s3.2.2.1 _ (by omega) (by omega), zw_id (x := i + 1) (by omega)]
    by_cases q : vC g (-1) i (-1) r
    · rw [if_neg (bI_n0.2 ((vT_clo hw r).2 q))]
      refine ⟨(M3, zor v 0), rfl, fm_t f2 f3, ST_cg (ST_or h2 ST_0) (fun c _ _ => ⟨fun z => ?_, fun z => Or.inl ⟨?_, z.2⟩⟩)⟩
      · rcases z with z | z
        · exact ⟨by omega, z.2⟩
        · exact z.elim
      by_cases ec : c = i
      · rw [ec] at z
        exact absurd q z.2
      · omega
    · rw [if_pos (bI_0.2 (fun z => q ((vT_clo hw r).1 z)))]
      refine ⟨(M3, _), rfl, fm_t f2 f3, ST_cg (ST_or h2 (ST_1 (show 0 ≤ i ∧ i < 30 by omega))) (fun c _ _ => ⟨?_, fun z => ?_⟩)⟩
      · rintro (z | z)
        · exact ⟨by omega, z.2⟩
        · rw [z]
          exact ⟨by omega, q⟩
      · by_cases ec : c = i
        · exact Or.inr ec
        · exact Or.inl ⟨by omega, z.2⟩
  · rintro ⟨M2, v⟩ ⟨f2, h2⟩
    exact ⟨v, M2, by rw [q_231_31, if_pos (Int.le_refl _)], f2, h2⟩
theorem o_needed {r : Int} (hw : WF (M 139)) (hd : dgr M 1 (M 139)) : qok (d + 12) 134 231 [zI r] M := by
  have hR := wf_R hw
  by_cases h : 0 ≤ r ∧ r < M 139 120
  · by_cases hv : vC (M 139) (-1) (-1) (-1) r
    · obtain ⟨v, e1, s1⟩ := x_needed (d := d) hw hd h hv
      obtain ⟨w, M', e2, f2, s2⟩ := m_needed (d := d) hw rfl h hv
      rw [ST_un s2 s1 (fun _ _ _ => Iff.rfl)] at e2
      exact ⟨zI v, M, M', e1, frr_r, e2, f2⟩
    · obtain ⟨v, e, s⟩ := x_visitable (d := d + 7) hw hd ST_0 ST_0
      obtain ⟨M1, e1, f1, s1⟩ := m_tell (d := d + 5) hw
      refine ⟨zI (-104), M, M1, ?_, frr_r, ?_, f1⟩
      · rw [en_134, q_134_0, x_hasRoom hd, Cb_I, q_134_8, if_pos (bI_n0.2 h), e, Cb_I, q_134_23, x_holds s (by omega), Cb_I, q_134_27, if_neg (fun z => z (bI_0.2 (fun z => hv ((clo_p hw r).1 z))))]
      · rw [en_231, q_231_0, m_isRoom _ hR, Cb_I, q_231_5, if_pos (bI_n0.2 h), e1, Cb_V, q_231_15, if_pos (by omega), s1.2.2.1 _ (by omega) (by omega), if_neg (fun z => z (bI_0.2 (fun z => hv ((vT_clo hw r).1 z))))]
  · refine ⟨zI (-101), M, M, ?_, frr_r, ?_, fm_r⟩
    · rw [en_134, q_134_0, x_hasRoom hd, Cb_I, q_134_8, if_neg (fun z => z (bI_0.2 h))]
    · rw [en_231, q_231_0, m_isRoom _ hR, Cb_I, q_231_5, if_neg (fun z => z (bI_0.2 h))]
theorem x_missing {r : Int} (hw : WF g) (hd : dgr M 1 g) (h : 0 ≤ r ∧ r < g 120) (hv : ¬ vC g (-1) (-1) (-1) r) : ∃ v, E (d + 12) 135 [zR 0, zI r] M = Rt (some (zI v)) M ∧ ST v (fun c => c < 6 ∧ vC g (-1) (-1) c r) := by
  have hR := wf_R hw
  obtain ⟨v, e, s⟩ := x_visitable (d := d + 7) hw hd ST_0 ST_0
  rw [en_135, q_135_0, x_hasRoom hd, Cb_I, q_135_8, if_pos (bI_n0.2 h), e, Cb_I, q_135_23, x_holds s (by omega), Cb_I, q_135_27, if_pos (bI_0.2 (fun z => hv ((clo_p hw r).1 z)))]
  refine lpi (fun i v => Q (d + 11) 135 37 [zR 0, zI r, zI v, zI i] [] M) (fun o => ∃ v, o = Rt (some (zI v)) M ∧ ST v (fun c => c < 6 ∧ vC g (-1) (-1) c r)) 6 (fun i v => ST v (fun c => c < i ∧ vC g (-1) (-1) c r)) ?_ ?_ 0 0 (by omega) (ST_cg ST_0 (fun c c0 _ => ⟨fun q => q.elim, fun q => by omega⟩))
  · intro i v i0 i1 h2
    refine Or.inr ?_
    obtain ⟨w, e2, s2⟩ := x_visitable (d := d + 7) hw hd ST_0 (ST_1 (show 0 ≤ i ∧ i < 30 by omega))
    have cq := clo_q (wo := -1) (F := ent g) (lg := fun k => k = i) (lg' := eqn i) (kg := fun _ => False) (kg' := eqn (-1)) hw (fun k k0 => ⟨fun z => z.elim, fun z => by unfold eqn at z; omega⟩) (fun k _ => Iff.rfl) r
    rw [q_135_37, if_neg (by omega), e2, Cb_I, q_135_54, x_holds s2 (by omega), Cb_I, q_135_58, zw_id (x := i + 1) (by omega)]
    by_cases q : vC g (-1) (-1) i r
    · rw [if_neg (bI_n0.2 (cq.2 q))]
      refine ⟨_, rfl, ST_cg (ST_or h2 (ST_1 (by omega))) (fun c _ _ => ⟨?_, fun z => ?_⟩)⟩
      · rintro (z | z)
        · exact ⟨by omega, z.2⟩
        · rw [z]
          exact ⟨by omega, q⟩
      · by_cases ec : c = i
        · exact Or.inr ec
        · exact Or.inl ⟨by omega, z.2⟩
    · rw [if_pos (bI_0.2 (fun z => q (cq.1 z)))]
      refine ⟨v, rfl, ST_cg h2 (fun c _ _ => ⟨fun z => ⟨by omega, z.2⟩, fun z => ⟨?_, z.2⟩⟩)⟩
      by_cases ec : c = i
      · rw [ec] at z
        exact absurd z.2 q
      · omega
  · intro v h2
    exact ⟨v, by rw [q_135_37, if_pos (Int.le_refl _)], h2⟩
theorem m_missing {r : Int} (hw : WF (M 139)) (hg : M 139 = g) (h : 0 ≤ r ∧ r < g 120) (hv : ¬ vC g (-1) (-1) (-1) r) : ∃ v M', E (d + 12) 232 [zR 138, zI r] M = Rt (some (zI v)) M' ∧ fm M M' ∧ ST v (fun c => c < 6 ∧ vC g (-1) (-1) c r) := by
  have hR := wf_R hw
  obtain ⟨M1, e1, f1, s1⟩ := m_tell (d := d + 5) hw
  rw [en_232, q_232_0, m_isRoom _ hR, Cb_I, q_232_5]
  rw [hg] at s1 hw hR
  rw [hg, if_pos (bI_n0.2 h), e1, Cb_V, q_232_15, if_pos (by omega), s1.2.2.1 _ (by omega) (by omega), if_pos (bI_0.2 (fun z => hv ((vT_clo hw r).1 z)))]
  refine lpi (fun i (s : ZM × Int) => Q (d + 11) 232 31 [zR 138, zI r, zI s.2, zI i] [] s.1) (fun o => ∃ v M', o = Rt (some (zI v)) M' ∧ fm M M' ∧ ST v (fun c => c < 6 ∧ vC g (-1) (-1) c r)) 6 (fun i s => fm M s.1 ∧ ST s.2 (fun c => c < i ∧ vC g (-1) (-1) c r)) ?_ ?_ 0 (M1, 0) (by omega) ⟨f1, ST_cg ST_0 (fun c c0 _ => ⟨fun q => q.elim, fun q => by omega⟩)⟩
  · rintro i ⟨M2, v⟩ i0 i1 ⟨f2, h2⟩
    dsimp only at f2 h2 ⊢
    refine Or.inr ?_
    have g2 := (fm_g f2).trans hg
    obtain ⟨M3, e3, f3, s3⟩ := m_tellVisit (d := d + 6) (M := M2) (by rw [g2]; exact hw) (-1) (-1) i
    rw [g2] at s3
    rw [q_232_31, if_neg (by omega), e3, Cb_V, q_232_44, if_pos (by omega), s3.2.2.1 _ (by omega) (by omega), zw_id (x := i + 1) (by omega)]
    by_cases q : vC g (-1) (-1) i r
    · rw [if_neg (bI_n0.2 ((vT_clo hw r).2 q))]
      refine ⟨(M3, _), rfl, fm_t f2 f3, ST_cg (ST_or h2 (ST_1 (show 0 ≤ i ∧ i < 30 by omega))) (fun c _ _ => ⟨?_, fun z => ?_⟩)⟩
      · rintro (z | z)
        · exact ⟨by omega, z.2⟩
        · rw [z]
          exact ⟨by omega, q⟩
      · by_cases ec : c = i
        · exact Or.inr ec
        · exact Or.inl ⟨by omega, z.2⟩
    · rw [if_pos (bI_0.2 (fun z => q ((vT_clo hw r).1 z)))]
      refine ⟨(M3, zor v 0), rfl, fm_t f2 f3, ST_cg (ST_or h2 ST_0) (fun c _ _ => ⟨fun z => ?_, fun z => Or.inl ⟨?_, z.2⟩⟩)⟩
      · rcases z with z | z
        · exact ⟨by omega, z.2⟩
        · exact z.elim
      by_cases ec : c = i
      · rw [ec] at z
        exact absurd z.2 q
      · omega
  · rintro ⟨M2, v⟩ ⟨f2, h2⟩
    exact ⟨v, M2, by rw [q_232_31, if_pos (Int.le_refl _)], f2, h2⟩
theorem o_missing {r : Int} (hw : WF (M 139)) (hd : dgr M 1 (M 139)) : qok (d + 12) 135 232 [zI r] M := by
  have hR := wf_R hw
  by_cases h : 0 ≤ r ∧ r < M 139 120
  · by_cases hv : vC (M 139) (-1) (-1) (-1) r
    · obtain ⟨v, e, s⟩ := x_visitable (d := d + 7) hw hd ST_0 ST_0
      obtain ⟨M1, e1, f1, s1⟩ := m_tell (d := d + 5) hw
      refine ⟨zI (-104), M, M1, ?_, frr_r, ?_, f1⟩
      · rw [en_135, q_135_0, x_hasRoom hd, Cb_I, q_135_8, if_pos (bI_n0.2 h), e, Cb_I, q_135_23, x_holds s (by omega), Cb_I, q_135_27, if_neg (bI_n0.2 ((clo_p hw r).2 hv))]
      · rw [en_232, q_232_0, m_isRoom _ hR, Cb_I, q_232_5, if_pos (bI_n0.2 h), e1, Cb_V, q_232_15, if_pos (by omega), s1.2.2.1 _ (by omega) (by omega), if_neg (bI_n0.2 ((vT_clo hw r).2 hv))]
    · obtain ⟨v, e1, s1⟩ := x_missing (d := d) hw hd h hv
      obtain ⟨w, M', e2, f2, s2⟩ := m_missing (d := d) hw rfl h hv
      rw [ST_un s2 s1 (fun _ _ _ => Iff.rfl)] at e2
      exact ⟨zI v, M, M', e1, frr_r, e2, f2⟩
  · refine ⟨zI (-101), M, M, ?_, frr_r, ?_, fm_r⟩
    · rw [en_135, q_135_0, x_hasRoom hd, Cb_I, q_135_8, if_neg (fun z => z (bI_0.2 h))]
    · rw [en_232, q_232_0, m_isRoom _ hR, Cb_I, q_232_5, if_neg (fun z => z (bI_0.2 h))]
end
