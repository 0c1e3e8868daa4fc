/-! least closed sets of rooms; the class's spread -/
section
variable {p q : Int → Prop} {n : Int}
theorem cN_mo : ∀ m : Nat, (∀ i : Int, 0 ≤ i → i < m → p i → q i) → cN p m ≤ cN q m
  | 0, _ => Int.le_refl 0
  | m + 1, h => by
    show cN p m + bI (p m) ≤ cN q m + bI (q m)
    have h1 := cN_mo m (fun i h0 h1 => h i h0 (by omega))
    have h2 := h m (by omega) (by omega)
    by_cases k : p m
    · rw [bI_t k, bI_t (h2 k)]; omega
    · rw [bI_f k]
      have := @bI_01 (q m)
      omega
theorem cn_mo (h : ∀ i, 0 ≤ i → i < n → p i → q i) : cn p n ≤ cn q n := cN_mo _ (fun i h0 h1 => h i h0 (by omega))
theorem cN_lt {j : Int} (hj : 0 ≤ j) (hq : q j) (hp : ¬ p j) : ∀ m : Nat, j < m → (∀ i : Int, 0 ≤ i → i < m → p i → q i) → cN p m + 1 ≤ cN q m
  | 0, h0, _ => absurd h0 (by omega)
  | m + 1, h0, h => by
    show cN p m + bI (p m) + 1 ≤ cN q m + bI (q m)
    by_cases e : j = m
    · subst e
      rw [bI_t hq, bI_f hp]
      have := cN_mo m (fun i h0 h1 => h i h0 (by omega))
      omega
    · have h1 := cN_lt hj hq hp m (by omega) (fun i h0 h1 => h i h0 (by omega))
      have h2 := h m (by omega) (by omega)
      by_cases k : p m
      · rw [bI_t k, bI_t (h2 k)]; omega
      · rw [bI_f k]
        have := @bI_01 (q m)
        omega
theorem cn_lt {j : Int} (hj : 0 ≤ j ∧ j < n) (hq : q j) (hp : ¬ p j) (h : ∀ i, 0 ≤ i → i < n → p i → q i) : cn p n + 1 ≤ cn q n := cN_lt hj.1 hq hp _ (by omega) (fun i h0 h1 => h i h0 (by omega))
theorem cn_all (h0 : 0 ≤ n) (h : n ≤ cn p n) {j : Int} (hj : 0 ≤ j ∧ j < n) : p j := by
  refine Classical.byContradiction fun k => ?_
  have h1 := cn_lt (q := fun _ => True) hj trivial k (fun _ _ _ _ => trivial)
  have h2 := cn_le (p := fun _ => True) h0
  omega
theorem cn_pos {j : Int} (hj : 0 ≤ j ∧ j < n) (h : p j) : 1 ≤ cn p n := by
  have h1 := cn_lt (p := fun _ => False) hj h (fun q => q) (fun _ _ _ q => q.elim)
  have h2 := cn_le (p := fun _ => False) (n := n) (by omega)
  omega
end
def opn (g : Int → Int) (S kg lg : Int → Prop) (c : Int) : Prop := gL g c = -1 ∨ (∃ r, 0 ≤ r ∧ r < g 120 ∧ S r ∧ gK g r = gL g c) ∧ ¬ kg (gL g c) ∨ lg (gL g c)
def cls (g : Int → Int) (wo : Int) (kg lg S : Int → Prop) : Prop := ∀ c, 0 ≤ c → c < g 121 → c ≠ wo → opn g S kg lg c → (S (gA g c) ↔ S (gB g c))
def clo (g : Int → Int) (wo : Int) (kg lg F : Int → Prop) (r : Int) : Prop := ∀ S : Int → Prop, (∀ s, F s → S s) → cls g wo kg lg S → S r
section
variable {g : Int → Int} {wo : Int} {kg lg F S T : Int → Prop}
theorem opn_mo {c : Int} (h : ∀ r, 0 ≤ r → r < g 120 → S r → T r) (k : opn g S kg lg c) : opn g T kg lg c := by
  rcases k with k | ⟨⟨r, h0, h1, h2, h3⟩, k⟩ | k
  · exact Or.inl k
  · exact Or.inr (Or.inl ⟨⟨r, h0, h1, h r h0 h1 h2, h3⟩, k⟩)
  · exact Or.inr (Or.inr k)
theorem clo_F {r : Int} (h : F r) : clo g wo kg lg F r := fun _ h1 _ => h1 r h
theorem clo_min {r : Int} (h : ∀ s, F s → S s) (k : cls g wo kg lg S) (hr : clo g wo kg lg F r) : S r := hr S h k
theorem clo_cls : cls g wo kg lg (clo g wo kg lg F) := by
  intro c h0 h1 h2 h3
  constructor
  · intro h S k1 k2
    exact (k2 c h0 h1 h2 (opn_mo (fun r _ _ q => q S k1 k2) h3)).1 (h S k1 k2)
  · intro h S k1 k2
    exact (k2 c h0 h1 h2 (opn_mo (fun r _ _ q => q S k1 k2) h3)).2 (h S k1 k2)
theorem clo_rg (hw : WF g) (hF : ∀ r, F r → 0 ≤ r ∧ r < g 120) {r : Int} (h : clo g wo kg lg F r) : 0 ≤ r ∧ r < g 120 := by
  refine clo_min hF ?_ h
  intro c h0 h1 _ _
  have := wf_ab hw ⟨h0, h1⟩
  dsimp only
  omega
end
section
variable {d : Nat} {M : ZM} {g : Int → Int}
def kof (g : Int → Int) (S : Int → Prop) (k : Int) : Prop := ∃ r, 0 ≤ r ∧ r < g 120 ∧ S r ∧ gK g r = k
theorem x_keysIn {x : Int} {S : Int → Prop} (hw : WF g) (hd : dgr M 1 g) (h : ST x S) : ∃ v, E (d + 2) 78 [zR 1, zI x] M = Rt (some (zI v)) M ∧ ST v (kof g S) := by
  have hR := wf_R hw
  rw [en_78, q_78_0]
  refine lpi (fun i v => Q (d + 1) 78 4 [zR 1, zI x, zI v, zI i] [] M) (fun o => ∃ v, o = Rt (some (zI v)) M ∧ ST v (kof g S)) (g 120) (fun i v => ST v (fun k => ∃ r, 0 ≤ r ∧ r < i ∧ S r ∧ gK g r = k)) ?_ ?_ 0 0 (by omega) (ST_cg ST_0 (fun i _ _ => ⟨fun q => q.elim, fun ⟨r, h0, h1, _⟩ => by omega⟩))
  · intro i v h0 h1 h2
    refine Or.inr ?_
    have hk := wf_k hw ⟨h0, h1⟩
    by_cases k : S i
    · refine ⟨zor v (kb g i), ?_, ?_⟩
      · rw [q_78_4, h1R hd, if_neg (by omega), x_holds h (by omega), Cb_I, q_78_17, if_neg (bI_n0.2 k), x_keyBit hw hd ⟨h0, h1⟩, Cb_I, q_78_26, zw_id (by omega)]
      · refine ST_cg (ST_or h2 (ST_kb hk)) (fun j j0 j1 => ⟨?_, ?_⟩)
        · rintro (⟨r, k0, k1, k2, k3⟩ | e)
          · exact ⟨r, k0, by omega, k2, k3⟩
          · exact ⟨i, h0, by omega, k, e.symm⟩
        · rintro ⟨r, k0, k1, k2, k3⟩
          by_cases e : r = i
          · subst e; exact Or.inr k3.symm
          · exact Or.inl ⟨r, k0, by omega, k2, k3⟩
    · refine ⟨v, ?_, ?_⟩
      · rw [q_78_4, h1R hd, if_neg (by omega), x_holds h (by omega), Cb_I, q_78_17, if_pos (bI_0.2 k), zw_id (by omega)]
      · refine ST_cg h2 (fun j j0 j1 => ⟨?_, ?_⟩)
        · rintro ⟨r, k0, k1, k2, k3⟩
          exact ⟨r, k0, by omega, k2, k3⟩
        · rintro ⟨r, k0, k1, k2, k3⟩
          by_cases e : r = i
          · subst e; exact absurd k2 k
          · exact ⟨r, k0, by omega, k2, k3⟩
  · intro v h2
    rw [q_78_4, h1R hd, if_pos (Int.le_refl _)]
    exact ⟨v, rfl, h2⟩
theorem ST_ab {c : Int} (hw : WF g) (hc : 0 ≤ c ∧ c < g 121) : ST (zor (zshl 1 (gA g c)) (zshl 1 (gB g c))) (fun r => r = gA g c ∨ r = gB g c) := by
  have hR := wf_R hw
  have h := wf_ab hw hc
  exact ST_or (ST_1 (by omega)) (ST_1 (by omega))
theorem x_sweep {x kx lx wo v7 v6 : Int} {kg lg F S : Int → Prop} {v5 : Int} {z9 : ZV} (hw : WF g) (hd : dgr M 1 g) (hF : ∀ r, F r → 0 ≤ r ∧ r < g 120) (h5 : ST v5 S) (hS : ∀ r, S r → clo g wo kg lg F r) (h7 : ST v7 (fun k => kof g S k ∧ ¬ kg k ∨ lg k)) : ∃ v z8 z, Q (d + 2) 75 32 [zR 1, zI x, zI kx, zI lx, zI wo, zI v5, zI v6, zI v7, zI 0, z9] [] M = Q (d + 2) 75 6 [zR 1, zI x, zI kx, zI lx, zI wo, zI v, zI (zw (v6 + 1)), zI v7, z8, z] [] M ∧ ∃ T, ST v T ∧ (∀ r, S r → T r) ∧ (∀ r, T r → clo g wo kg lg F r) ∧ (cls g wo kg lg S → ∀ r, T r → S r) ∧ (¬ cls g wo kg lg S → cn S (g 120) + 1 ≤ cn T (g 120)) := by
  have hW := wf_W hw
  have hR := wf_R hw
  refine lpi (fun i (s : Int × ZV) => Q (d + 2) 75 32 [zR 1, zI x, zI kx, zI lx, zI wo, zI s.1, zI v6, zI v7, zI i, s.2] [] M) (fun o => ∃ v z8 z, o = Q (d + 2) 75 6 [zR 1, zI x, zI kx, zI lx, zI wo, zI v, zI (zw (v6 + 1)), zI v7, z8, z] [] M ∧ ∃ T, ST v T ∧ (∀ r, S r → T r) ∧ (∀ r, T r → clo g wo kg lg F r) ∧ (cls g wo kg lg S → ∀ r, T r → S r) ∧ (¬ cls g wo kg lg S → cn S (g 120) + 1 ≤ cn T (g 120))) (g 121) (fun i s => ∃ T, ST s.1 T ∧ (∀ r, S r → T r) ∧ (∀ r, T r → clo g wo kg lg F r) ∧ (cls g wo kg lg S → ∀ r, T r → S r) ∧ (∀ c, 0 ≤ c → c < i → c ≠ wo → opn g S kg lg c → S (gA g c) ∨ S (gB g c) → T (gA g c) ∧ T (gB g c))) ?_ ?_ 0 (v5, z9) (by omega) ⟨S, h5, fun _ q => q, hS, fun _ _ q => q, fun c h0 h1 => absurd h1 (by omega)⟩
  · rintro i ⟨v, z⟩ h0 h1 ⟨T, t1, t2, t3, t4, t5⟩
    refine Or.inr ?_
    dsimp only at t1 ⊢
    have hab := wf_ab hw ⟨h0, h1⟩
    have hl := wf_l hw ⟨h0, h1⟩
    have so : (gL g i = -1 ∨ (kof g S (gL g i) ∧ ¬ kg (gL g i) ∨ lg (gL g i))) ↔ opn g S kg lg i := Iff.rfl
    have hmeet : zand (zor (zshl 1 (gA g i)) (zshl 1 (gB g i))) v = 0 ↔ ¬ (T (gA g i) ∨ T (gB g i)) := by
      rw [ST_eq0 (ST_and (ST_ab hw ⟨h0, h1⟩) t1)]
      constructor
      · rintro q (k | k)
        · exact q _ (by omega) (by omega) ⟨Or.inl rfl, k⟩
        · exact q _ (by omega) (by omega) ⟨Or.inr rfl, k⟩
      · rintro q j _ _ ⟨k | k, l⟩
        · exact q (Or.inl (k ▸ l))
        · exact q (Or.inr (k ▸ l))
    by_cases e1 : i = wo
    · refine ⟨(v, zI (zor (zshl 1 (gA g i)) (zshl 1 (gB g i)))), ?_, T, t1, t2, t3, t4, fun c c0 c1 c2 => t5 c c0 (by omega) c2⟩
      rw [q_75_32, h1W hd, if_neg (by omega), if_pos (by omega), if_pos (by omega), if_pos e1, h1a hd ⟨h0, h1⟩, h1b hd ⟨h0, h1⟩, zw_id (by omega)]
    · by_cases e2 : T (gA g i) ∨ T (gB g i)
      · by_cases e3 : opn g S kg lg i
        · refine ⟨(zor v (zor (zshl 1 (gA g i)) (zshl 1 (gB g i))), zI (zor (zshl 1 (gA g i)) (zshl 1 (gB g i)))), ?_, fun r => T r ∨ (r = gA g i ∨ r = gB g i), ST_or t1 (ST_ab hw ⟨h0, h1⟩), fun r q => Or.inl (t2 r q), ?_, ?_, ?_⟩
          · rw [q_75_32, h1W hd, if_neg (by omega), if_pos (by omega), if_pos (by omega), if_neg e1, h1a hd ⟨h0, h1⟩, h1b hd ⟨h0, h1⟩, if_neg (fun q => hmeet.1 q e2), x_opens hw hd ⟨h0, h1⟩ h7, Cb_I, q_75_85, if_neg (bI_n0.2 (so.2 e3)), zw_id (by omega)]
          · have c1 := clo_cls (g := g) (wo := wo) (kg := kg) (lg := lg) (F := F) i h0 h1 e1 (opn_mo (fun r _ _ q => hS r q) e3)
            rintro r (q | q | q)
            · exact t3 r q
            · rw [q]
              rcases e2 with e | e
              · exact t3 _ e
              · exact c1.2 (t3 _ e)
            · rw [q]
              rcases e2 with e | e
              · exact c1.1 (t3 _ e)
              · exact t3 _ e
          · rintro hc r (q | q | q)
            · exact t4 hc r q
            · rw [q]
              rcases e2 with e | e
              · exact t4 hc _ e
              · exact (hc i h0 h1 e1 e3).2 (t4 hc _ e)
            · rw [q]
              rcases e2 with e | e
              · exact (hc i h0 h1 e1 e3).1 (t4 hc _ e)
              · exact t4 hc _ e
          · intro c c0 c1 c2 c3 c4
            by_cases ec : c = i
            · subst ec
              exact ⟨Or.inr (Or.inl rfl), Or.inr (Or.inr rfl)⟩
            · have := t5 c c0 (by omega) c2 c3 c4
              exact ⟨Or.inl this.1, Or.inl this.2⟩
        · refine ⟨(v, zI (zor (zshl 1 (gA g i)) (zshl 1 (gB g i)))), ?_, T, t1, t2, t3, t4, ?_⟩
          · rw [q_75_32, h1W hd, if_neg (by omega), if_pos (by omega), if_pos (by omega), if_neg e1, h1a hd ⟨h0, h1⟩, h1b hd ⟨h0, h1⟩, if_neg (fun q => hmeet.1 q e2), x_opens hw hd ⟨h0, h1⟩ h7, Cb_I, q_75_85, if_pos (bI_0.2 (fun q => e3 (so.1 q))), zw_id (by omega)]
          · intro c c0 c1 c2 c3 c4
            by_cases ec : c = i
            · subst ec
              exact absurd c3 e3
            · exact t5 c c0 (by omega) c2 c3 c4
      · refine ⟨(v, zI (zor (zshl 1 (gA g i)) (zshl 1 (gB g i)))), ?_, T, t1, t2, t3, t4, ?_⟩
        · rw [q_75_32, h1W hd, if_neg (by omega), if_pos (by omega), if_pos (by omega), if_neg e1, h1a hd ⟨h0, h1⟩, h1b hd ⟨h0, h1⟩, if_pos (hmeet.2 e2), zw_id (by omega)]
        · intro c c0 c1 c2 c3 c4
          by_cases ec : c = i
          · subst ec
            exact absurd (c4.elim (fun q => Or.inl (t2 _ q)) (fun q => Or.inr (t2 _ q))) e2
          · exact t5 c c0 (by omega) c2 c3 c4
  · rintro ⟨v, z⟩ ⟨T, t1, t2, t3, t4, t5⟩
    dsimp only at t1 ⊢
    refine ⟨v, _, z, by rw [q_75_32, h1W hd, if_pos (Int.le_refl _)], T, t1, t2, t3, t4, ?_⟩
    intro hn
    refine Classical.byContradiction fun hk => hn ?_
    intro c c0 c1 c2 c3
    have hab := wf_ab hw ⟨c0, c1⟩
    have t := t5 c c0 c1 c2 c3
    constructor
    · intro q
      refine Classical.byContradiction fun nq => hk ?_
      exact cn_lt (j := gB g c) (by omega) (t (Or.inl q)).2 nq (fun r _ _ k => t2 r k)
    · intro q
      refine Classical.byContradiction fun nq => hk ?_
      exact cn_lt (j := gA g c) (by omega) (t (Or.inr q)).1 nq (fun r _ _ k => t2 r k)
theorem x_spread {x kx lx wo : Int} {kg lg F : Int → Prop} (hw : WF g) (hd : dgr M 1 g) (hF : ∀ r, F r → 0 ≤ r ∧ r < g 120) (hN : 0 < g 120 → ∃ r, F r) (hx : ST x F) (hk : ST kx kg) (hl : ST lx lg) : ∃ v, E (d + 3) 75 [zR 1, zI x, zI kx, zI lx, zI wo] M = Rt (some (zI v)) M ∧ ST v (clo g wo kg lg F) := by
  have hR := wf_R hw
  have hW := wf_W hw
  rw [en_75, q_75_0]
  have key : ∀ S, (∀ r, F r → S r) → (∀ r, S r → clo g wo kg lg F r) → cls g wo kg lg S → ∀ v, ST v S → ST v (clo g wo kg lg F) := fun S h1 h2 h3 v h4 => ST_cg h4 (fun i _ _ => ⟨h2 i, clo_min h1 h3⟩)
  by_cases e0 : g 120 = 0
  · refine ⟨x, by rw [q_75_6, h1R hd, if_pos (by omega)], key F (fun _ q => q) (fun r q => clo_F q) ?_ x hx⟩
    intro c h0 h1
    have := wf_ab hw ⟨h0, h1⟩
    omega
  · obtain ⟨r0, hr0⟩ := hN (by omega)
    refine lpi (fun i (s : Int × ZV × ZV × ZV) => Q (d + 2) 75 6 [zR 1, zI x, zI kx, zI lx, zI wo, zI s.1, zI i, s.2.1, s.2.2.1, s.2.2.2] [] M) (fun o => ∃ v, o = Rt (some (zI v)) M ∧ ST v (clo g wo kg lg F)) (g 120) (fun i s => ∃ S, ST s.1 S ∧ (∀ r, F r → S r) ∧ (∀ r, S r → clo g wo kg lg F r) ∧ (cls g wo kg lg S ∨ i ≤ cn S (g 120))) ?_ ?_ 1 (x, zU, zU, zU) (by omega) ⟨F, hx, fun _ q => q, fun r q => clo_F q, Or.inr (cn_pos (hF r0 hr0) hr0)⟩
    · rintro i ⟨v, z7, z8, z9⟩ h0 h1 ⟨S, s1, s2, s3, s4⟩
      dsimp only at s1 ⊢
      refine Or.inr ?_
      obtain ⟨kv, k1, k2⟩ := x_keysIn (d := d) hw hd s1
      obtain ⟨v', z8', z9', e, T, t1, t2, t3, t4, t5⟩ := x_sweep (d := d) (M := M) (x := x) (kx := kx) (lx := lx) (v6 := i) (z9 := z9) hw hd hF s1 s3 (ST_or (ST_dif k2 hk) hl)
      refine ⟨(v', zI (zor (zand kv (zxor kx (-1))) lx), z8', z9'), ?_, T, t1, fun r q => t2 r (s2 r q), t3, ?_⟩
      · rw [q_75_6, h1R hd, if_neg (by omega), k1, Cb_I, q_75_21, e, zw_id (by omega)]
      · by_cases hc : cls g wo kg lg S
        · have : T = S := funext fun r => propext ⟨t4 hc r, t2 r⟩
          rw [this]
          exact Or.inl hc
        · have := t5 hc
          rcases s4 with s4 | s4
          · exact absurd s4 hc
          · exact Or.inr (by omega)
    · rintro ⟨v, z7, z8, z9⟩ ⟨S, s1, s2, s3, s4⟩
      dsimp only at s1 ⊢
      refine ⟨v, by rw [q_75_6, h1R hd, if_pos (Int.le_refl _)], key S s2 s3 ?_ v s1⟩
      rcases s4 with s4 | s4
      · exact s4
      · intro c c0 c1 _ _
        have hab := wf_ab hw ⟨c0, c1⟩
        exact ⟨fun _ => cn_all (by omega) s4 (by omega), fun _ => cn_all (by omega) s4 (by omega)⟩
end
