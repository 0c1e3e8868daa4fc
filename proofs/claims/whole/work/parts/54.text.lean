/-! append, faultPosition -/
def byt (v t : Int) : Int := zand (zushr v (24 - 8 * t)) 255
def bad (v t : Int) : Prop := byt v t ≠ 0 ∧ (byt v t < 33 ∨ 126 < byt v t)
def nz (v t : Int) : Prop := byt v t ≠ 0
noncomputable def apS (v n : Int) (t : Int) (f : Int → Int) : Int → Int := if byt v t = 0 then f else up1 f (n + cn (nz v) t) (byt v t)
noncomputable def apT (v n : Int) (f : Int → Int) (t : Int) : Int → Int := its (apS v n) f t
section
variable {d : Nat} {M : ZM}
theorem byt_rg (v t : Int) : 0 ≤ byt v t ∧ byt v t ≤ 255 := zand_le (by omega)
theorem apT_s {v n t : Int} {f : Int → Int} (h : 0 ≤ t) : apT v n f (t + 1) = apS v n t (apT v n f t) := its_s h
/-- both rows of signs stay the same -/
theorem ap_eq {v n : Int} {f h : Int → Int} (hn : 0 ≤ n) (h0 : ∀ i, 0 ≤ i → i < n → h i = f i ∧ 33 ≤ f i ∧ f i ≤ 126) : ∀ t : Nat, (∀ j : Int, 0 ≤ j → j < t → ¬ bad v j) → ∀ i, 0 ≤ i → i < n + cn (nz v) t → apT v n h t i = apT v n f t i ∧ 33 ≤ apT v n f t i ∧ apT v n f t i ≤ 126
  | 0, _, i, i0, i1 => h0 i i0 (by have : cn (nz v) ((0 : Nat) : Int) = 0 := rfl; omega)
  | t + 1, hb, i, i0, i1 => by
    have ih := ap_eq hn h0 t (fun j j0 j1 => hb j j0 (by omega))
    have nb := hb t (by omega) (by omega)
    have le := cn_le (p := nz v) (n := (t : Int)) (by omega)
    rw [show ((t + 1 : Nat) : Int) = (t : Int) + 1 by omega] at i1 ⊢
    rw [cn_s (by omega)] at i1
    rw [apT_s (by omega), apT_s (by omega)]
    unfold apS
    by_cases k : byt v t = 0
    · rw [bI_f (show ¬ nz v t from fun q => q k)] at i1
      rw [if_pos k, if_pos k]
      exact ih i i0 (by omega)
    · rw [bI_t (show nz v t from k)] at i1
      rw [if_neg k, if_neg k]
      by_cases e : i = n + cn (nz v) t
      · rw [e, up1_s, up1_s]
        unfold bad at nb
        omega
      · rw [up1_n e, up1_n e]
        exact ih i i0 (by omega)
theorem x_take {v n : Int} (hn : 0 ≤ n ∧ n ≤ 60) (h5 : M 84 5 = n) : (∃ t, (0 ≤ t ∧ t < 4) ∧ bad v t ∧ E (d + 2) 85 [zR 84, zI v] M = Rt (some (zI (-102))) M) ∨ ((∀ t, 0 ≤ t → t < 4 → ¬ bad v t) ∧ ((60 < n + cn (nz v) 4 ∧ E (d + 2) 85 [zR 84, zI v] M = Rt (some (zI (-103))) M) ∨ (n + cn (nz v) 4 ≤ 60 ∧ ∃ M', E (d + 2) 85 [zR 84, zI v] M = Rt (some (zI (n + cn (nz v) 4))) M' ∧ (∀ b, b ≠ 84 → b ≠ 85 → M' b = M b) ∧ (∀ f, f ≠ 5 → M' 84 f = M 84 f) ∧ M' 84 5 = n + cn (nz v) 4 ∧ M' 85 = apT v n (M 85) 4))) := by
  have c4 := cn_le (p := nz v) (n := 4) (by omega)
  rw [en_85, q_85_0]
  refine lpi (fun t (z : ZV) => Q (d + 1) 85 5 [zR 84, zI v, zI (cn (nz v) t), zI (24 - 8 * t), z] [] M) (fun o => (∃ t, (0 ≤ t ∧ t < 4) ∧ bad v t ∧ o = Rt (some (zI (-102))) M) ∨ ((∀ t, 0 ≤ t → t < 4 → ¬ bad v t) ∧ ((60 < n + cn (nz v) 4 ∧ o = Rt (some (zI (-103))) M) ∨ (n + cn (nz v) 4 ≤ 60 ∧ ∃ M', o = Rt (some (zI (n + cn (nz v) 4))) M' ∧ (∀ b, b ≠ 84 → b ≠ 85 → M' b = M b) ∧ (∀ f, f ≠ 5 → M' 84 f = M 84 f) ∧ M' 84 5 = n + cn (nz v) 4 ∧ M' 85 = apT v n (M 85) 4)))) 4 (fun t _ => ∀ j, 0 ≤ j → j < t → ¬ bad v j) ?_ ?_ 0 zU (by omega) (fun j j0 j1 => absurd j1 (by omega))
  · intro t z t0 t1 h
    have br := byt_rg v t
    have le := cn_le (p := nz v) t0
    have eb : zand (zushr v (24 - 8 * t)) 255 = byt v t := rfl
    rw [q_85_5, if_neg (by omega), eb, zw_id (x := 24 - 8 * t + -8) (by omega), show 24 - 8 * t + -8 = 24 - 8 * (t + 1) by omega]
    have more : ¬ bad v t → ∀ j, 0 ≤ j → j < t + 1 → ¬ bad v j := fun q j j0 j1 => by
      by_cases e : j = t
      · rw [e]; exact q
      · exact h j j0 (by omega)
    by_cases k : byt v t = 0
    · refine Or.inr ⟨zI (byt v t), ?_, more (fun q => q.1 k)⟩
      rw [if_pos k, if_neg (fun q => q k), cn_s t0, bI_f (show ¬ nz v t from fun q => q k), zw_id (by omega)]
    · rw [if_neg k]
      by_cases k1 : byt v t < 33
      · exact Or.inl (Or.inl ⟨t, ⟨t0, t1⟩, ⟨k, Or.inl k1⟩, by rw [if_pos k1]⟩)
      · rw [if_neg k1]
        by_cases k2 : byt v t ≤ 126
        · refine Or.inr ⟨zI (byt v t), ?_, more (fun q => by unfold bad at q; omega)⟩
          rw [if_pos k2, if_pos k, cn_s t0, bI_t (show nz v t from k), zw_id (by omega)]
        · exact Or.inl (Or.inl ⟨t, ⟨t0, t1⟩, ⟨k, Or.inr (by omega)⟩, by rw [if_neg k2]⟩)
  · intro z h
    refine Or.inr ⟨h, ?_⟩
    rw [q_85_5, if_pos (by decide), h5, zw_id (by omega)]
    by_cases k : n + cn (nz v) 4 ≤ 60
    · refine Or.inr ⟨k, ?_⟩
      rw [if_pos k]
      refine lpi (fun t (M1 : ZM) => Q (d + 1) 85 76 [zR 84, zI v, zI (cn (nz v) 4), zI (24 - 8 * t), z] [] M1) (fun o => ∃ M', o = Rt (some (zI (n + cn (nz v) 4))) M' ∧ (∀ b, b ≠ 84 → b ≠ 85 → M' b = M b) ∧ (∀ f, f ≠ 5 → M' 84 f = M 84 f) ∧ M' 84 5 = n + cn (nz v) 4 ∧ M' 85 = apT v n (M 85) 4) 4 (fun t M1 => (∀ b, b ≠ 84 → b ≠ 85 → M1 b = M b) ∧ (∀ f, f ≠ 5 → M1 84 f = M 84 f) ∧ M1 84 5 = n + cn (nz v) t ∧ M1 85 = apT v n (M 85) t) ?_ ?_ 0 M (by omega) ⟨fun _ _ _ => rfl, fun _ _ => rfl, by rw [h5]; exact (Int.add_zero n).symm, rfl⟩
      · rintro t M1 t0 t1 ⟨p1, p2, p3, p4⟩
        have le := cn_le (p := nz v) t0
        have mn := cn_mn (p := nz v) (m := t + 1) (n := 4) (by omega) (by omega)
        rw [cn_s t0] at mn
        have eb : zand (zushr v (24 - 8 * t)) 255 = byt v t := rfl
        have go : ∀ M2, E (d + 1) 86 [zR 84, zI (byt v t)] M1 = Rt none M2 → Q (d + 1) 85 76 [zR 84, zI v, zI (cn (nz v) 4), zI (24 - 8 * t), z] [] M1 = Q (d + 1) 85 76 [zR 84, zI v, zI (cn (nz v) 4), zI (24 - 8 * (t + 1)), z] [] M2 := by
          intro M2 e
          rw [q_85_76, if_neg (by omega), eb, e, Cb_V, q_85_91, zw_id (x := 24 - 8 * t + -8) (by omega), show 24 - 8 * t + -8 = 24 - 8 * (t + 1) by omega]
        refine Or.inr ?_
        by_cases q : byt v t = 0
        · refine ⟨M1, go M1 (by rw [en_86, q_86_0, if_pos q]), p1, p2, ?_, ?_⟩
          · rw [cn_s t0, bI_f (show ¬ nz v t from fun z => z q), p3]
            omega
          · rw [apT_s t0, p4]
            exact (if_pos q).symm
        · rw [bI_t (show nz v t from q)] at mn
          refine ⟨zwr (zwr M1 85 (n + cn (nz v) t) (byt v t)) 84 5 (n + cn (nz v) t + 1), go _ ?_, fun b b0 b1 => by rw [zwr_n b0, zwr_n b1]; exact p1 b b0 b1, fun f hf => by rw [zwr_nj hf, zwr_ne (by decide)]; exact p2 f hf, ?_, ?_⟩
          · rw [en_86, q_86_0, if_neg q, if_neg (by omega), if_pos (by omega), p3, zwr_ne (by decide), p3, zw_id (by omega)]
          · rw [zwr_at, cn_s t0, bI_t (show nz v t from q)]
            omega
          · rw [zwr_n (by decide), zwr_u, apT_s t0, p4]
            exact (if_neg q).symm
      · rintro M1 ⟨p1, p2, p3, p4⟩
        exact ⟨M1, by rw [q_85_76, if_pos (by decide), p3], p1, p2, p3, p4⟩
    · exact Or.inl ⟨by omega, by rw [if_neg k]⟩
theorem m_append {v n : Int} (hn : 0 ≤ n ∧ n ≤ 60) (h5 : M 138 17 = n) : (∃ t, (0 ≤ t ∧ t < 4) ∧ bad v t ∧ E (d + 2) 199 [zR 138, zI v] M = Rt (some (zI (-102))) M) ∨ ((∀ t, 0 ≤ t → t < 4 → ¬ bad v t) ∧ ((60 < n + cn (nz v) 4 ∧ E (d + 2) 199 [zR 138, zI v] M = Rt (some (zI (-103))) M) ∨ (n + cn (nz v) 4 ≤ 60 ∧ ∃ M', E (d + 2) 199 [zR 138, zI v] M = Rt (some (zI (n + cn (nz v) 4))) M' ∧ (∀ b, b ≠ 138 → b ≠ 148 → M' b = M b) ∧ (∀ f, f ≠ 17 → M' 138 f = M 138 f) ∧ M' 138 17 = n + cn (nz v) 4 ∧ M' 148 = apT v n (M 148) 4))) := by
  have c4 := cn_le (p := nz v) (n := 4) (by omega)
  rw [en_199, q_199_0]
  refine lpi (fun t (z : ZV) => Q (d + 1) 199 5 [zR 138, zI v, zI (cn (nz v) t), zI (24 - 8 * t), z] [] M) (fun o => (∃ t, (0 ≤ t ∧ t < 4) ∧ bad v t ∧ o = Rt (some (zI (-102))) M) ∨ ((∀ t, 0 ≤ t → t < 4 → ¬ bad v t) ∧ ((60 < n + cn (nz v) 4 ∧ o = Rt (some (zI (-103))) M) ∨ (n + cn (nz v) 4 ≤ 60 ∧ ∃ M', o = Rt (some (zI (n + cn (nz v) 4))) M' ∧ (∀ b, b ≠ 138 → b ≠ 148 → M' b = M b) ∧ (∀ f, f ≠ 17 → M' 138 f = M 138 f) ∧ M' 138 17 = n + cn (nz v) 4 ∧ M' 148 = apT v n (M 148) 4)))) 4 (fun t _ => ∀ j, 0 ≤ j → j < t → ¬ bad v j) ?_ ?_ 0 zU (by omega) (fun j j0 j1 => absurd j1 (by omega))
  · intro t z t0 t1 h
    have br := byt_rg v t
    have le := cn_le (p := nz v) t0
    have eb : zand (zushr v (24 - 8 * t)) 255 = byt v t := rfl
    rw [q_199_5, if_neg (by omega), eb, zw_id (x := 24 - 8 * t + -8) (by omega), show 24 - 8 * t + -8 = 24 - 8 * (t + 1) by omega]
    have more : ¬ bad v t → ∀ j, 0 ≤ j → j < t + 1 → ¬ bad v j := fun q j j0 j1 => by
      by_cases e : j = t
      · rw [e]; exact q
      · exact h j j0 (by omega)
    by_cases k : byt v t = 0
    · refine Or.inr ⟨zI (byt v t), ?_, more (fun q => q.1 k)⟩
      rw [if_pos k, if_pos k, cn_s t0, bI_f (show ¬ nz v t from fun q => q k), zw_id (by omega)]
    · rw [if_neg k, m_in, Cb_I, q_199_32, zw_id (x := 24 - 8 * t + -8) (by omega), show 24 - 8 * t + -8 = 24 - 8 * (t + 1) by omega]
      by_cases k1 : 33 ≤ byt v t ∧ byt v t ≤ 126
      · refine Or.inr ⟨zI (byt v t), ?_, more (fun q => by unfold bad at q; omega)⟩
        rw [if_pos (bI_n0.2 k1), if_neg k, cn_s t0, bI_t (show nz v t from k), zw_id (by omega)]
      · exact Or.inl (Or.inl ⟨t, ⟨t0, t1⟩, ⟨k, by omega⟩, by rw [if_neg (fun q => q (bI_0.2 k1))]⟩)
  · intro z h
    refine Or.inr ⟨h, ?_⟩
    rw [q_199_5, if_pos (by decide), h5, zw_id (by omega)]
    by_cases k : n + cn (nz v) 4 ≤ 60
    · refine Or.inr ⟨k, ?_⟩
      rw [if_pos k]
      refine lpi (fun t (s : ZM × ZV) => Q (d + 1) 199 74 [zR 138, zI v, zI (cn (nz v) 4), zI (24 - 8 * t), s.2] [] s.1) (fun o => ∃ M', o = Rt (some (zI (n + cn (nz v) 4))) M' ∧ (∀ b, b ≠ 138 → b ≠ 148 → M' b = M b) ∧ (∀ f, f ≠ 17 → M' 138 f = M 138 f) ∧ M' 138 17 = n + cn (nz v) 4 ∧ M' 148 = apT v n (M 148) 4) 4 (fun t s => (∀ b, b ≠ 138 → b ≠ 148 → s.1 b = M b) ∧ (∀ f, f ≠ 17 → s.1 138 f = M 138 f) ∧ s.1 138 17 = n + cn (nz v) t ∧ s.1 148 = apT v n (M 148) t) ?_ ?_ 0 (M, z) (by omega) ⟨fun _ _ _ => rfl, fun _ _ => rfl, by dsimp only; rw [h5]; exact (Int.add_zero n).symm, rfl⟩
      · rintro t ⟨M1, z'⟩ t0 t1 ⟨p1, p2, p3, p4⟩
        dsimp only at p1 p2 p3 p4 ⊢
        have br := byt_rg v t
        have le := cn_le (p := nz v) t0
        have mn := cn_mn (p := nz v) (m := t + 1) (n := 4) (by omega) (by omega)
        rw [cn_s t0] at mn
        have eb : zand (zushr v (24 - 8 * t)) 255 = byt v t := rfl
        refine Or.inr ?_
        rw [q_199_74, if_neg (by omega), eb, zw_id (x := 24 - 8 * t + -8) (by omega), show 24 - 8 * t + -8 = 24 - 8 * (t + 1) by omega]
        by_cases q : byt v t = 0
        · refine ⟨(M1, zI (byt v t)), by rw [if_pos q], p1, p2, ?_, ?_⟩
          · dsimp only
            rw [cn_s t0, bI_f (show ¬ nz v t from fun z => z q), p3]
            omega
          · dsimp only
            rw [apT_s t0, p4]
            exact (if_pos q).symm
        · rw [bI_t (show nz v t from q)] at mn
          refine ⟨(zwr (zwr M1 148 (n + cn (nz v) t) (byt v t)) 138 17 (n + cn (nz v) t + 1), zI (byt v t)), ?_, fun b b0 b1 => by dsimp only; rw [zwr_n b0, zwr_n b1]; exact p1 b b0 b1, fun f hf => by dsimp only; rw [zwr_nj hf, zwr_ne (by decide)]; exact p2 f hf, ?_, ?_⟩
          · rw [if_neg q, if_pos (by omega), if_pos (by omega), p3, zwr_ne (by decide), p3, zw_id (by omega)]
          · dsimp only
            rw [zwr_at, cn_s t0, bI_t (show nz v t from q)]
            omega
          · dsimp only
            rw [zwr_n (by decide), zwr_u, apT_s t0, p4]
            exact (if_neg q).symm
      · rintro ⟨M1, z'⟩ ⟨p1, p2, p3, p4⟩
        dsimp only at p1 p2 p3 p4 ⊢
        exact ⟨M1, by rw [q_199_74, if_pos (by decide), p3], p1, p2, p3, p4⟩
    · exact Or.inl ⟨by omega, by rw [if_neg k]⟩
theorem o_append {S : Int → Int} {v : Int} (hr : RL S M) : uok (d + 12) 115 199 [zI v] S M := by
  have h' := hr
  obtain ⟨h1, h2, h3, h4, h5, h6⟩ := hr
  obtain ⟨t1, t2, t3, t4⟩ := h6
  have z := zSC_b
  have X := x_take (d := d + 9) (M := M) (v := v) t1 rfl
  rcases X with ⟨t, t0, hb, e⟩ | ⟨nb, ⟨k, e⟩ | ⟨k, M1, e, p1, p2, p3, p4⟩⟩
  · rcases m_append (d := d + 10) (M := M) (v := v) t1 t2 with ⟨_, _, _, e'⟩ | ⟨nb, _⟩
    · exact ⟨zI (-102), M, M, by rw [en_115, q_115_0, e, Cb_I, q_115_8], e', h'⟩
    · exact absurd hb (nb t t0.1 t0.2)
  · rcases m_append (d := d + 10) (M := M) (v := v) t1 t2 with ⟨t, t0, hb, _⟩ | ⟨_, ⟨_, e'⟩ | ⟨k', _⟩⟩
    · exact absurd hb (nb t t0.1 t0.2)
    · exact ⟨zI (-103), M, M, by rw [en_115, q_115_0, e, Cb_I, q_115_8], e', h'⟩
    · omega
  · have q17 : M1 138 17 = M 84 5 := by rw [p1 138 (by decide) (by decide)]; exact t2
    rcases m_append (d := d + 10) (M := M1) (v := v) t1 q17 with ⟨t, t0, hb, _⟩ | ⟨_, ⟨k', _⟩ | ⟨_, M2, e', r1, r2, r3, r4⟩⟩
    · exact absurd hb (nb t t0.1 t0.2)
    · omega
    · have c : ∀ b, b ≠ 84 → b ≠ 85 → b ≠ 138 → b ≠ 148 → M2 b = M b := fun b a1 a2 a3 a4 => (r1 b a3 a4).trans (p1 b a1 a2)
      have p : ∀ f, f ≠ 17 → M2 138 f = M 138 f := fun f hf => (r2 f hf).trans (by rw [p1 138 (by decide) (by decide)])
      have c39 := c 139 (by decide) (by decide) (by decide) (by decide)
      have m84 : M2 84 = M1 84 := r1 84 (by decide) (by decide)
      have m85 : M2 85 = M1 85 := r1 85 (by decide) (by decide)
      have c4 := cn_le (p := nz v) (n := 4) (by omega)
      refine ⟨zI (M 84 5 + cn (nz v) 4), M1, M2, by rw [en_115, q_115_0, e, Cb_I, q_115_8], e', (c zSC (by omega) (by omega) (by omega) (by omega)).trans h1, by rw [c39]; exact h2, by rw [c39]; exact dgr_cg (fun b b0 b1 => c b (by omega) (by omega) (by omega) (by omega)) h3, HI_0 h4 ⟨c 19 (by decide) (by decide) (by decide) (by decide), fun b b0 _ => c b (by omega) (by omega) (by omega) (by omega)⟩ ⟨p 2 (by decide), c 140 (by decide) (by decide) (by decide) (by decide)⟩, SV_cg h5 (c 0 (by decide) (by decide) (by decide) (by decide)) (fun b b0 b1 => c b (by omega) (by omega) (by omega) (by omega)) (p 4 (by decide)) (c 141 (by decide) (by decide) (by decide) (by decide)), ⟨?_, ?_, ?_, ?_⟩⟩
      · rw [m84, p3]
        omega
      · rw [m84, p3, r3]
      · intro i i0 i1
        rw [m84, p3] at i1
        rw [m85, p4, r4, p1 148 (by decide) (by decide)]
        exact ap_eq t1.1 t3 4 nb i i0 i1
      · rw [m84, p2 7 (by decide), p 18 (by decide)]
        exact t4
theorem o_fault {S : Int → Int} (hr : RL S M) : uok (d + 12) 117 206 [] S M := by
  have h' := hr
  obtain ⟨h1, h2, h3, h4, h5, h6⟩ := hr
  exact ⟨zI (M 84 7), M, M, by rw [en_117, q_117_0], by rw [en_206, q_206_0, h6.2.2.2], h'⟩
end
