/-! read -/
section
variable {d : Nat} {M : ZM} {T : Int → Int} {n k : Int} {g : Int → Int}
/-- a command is done alike -/
def exR (g : Int → Int) (k : Int) (nu : Int → Int) (p : Int × (Int → Int)) : Prop := WF p.2 ∧ (p.1 < 0 → p.1 ≠ -104 → p.2 = g) ∧ (∀ d M r, zkn SH r = 20 → zln SH r = 4 → (∀ j, 0 ≤ j → j < nof k → M r j = nu j) → dgr M 1 g → ∃ M', E (d + 9) 96 [zR 1, zI k, zR r] M = Rt (some (zI p.1)) M' ∧ frr 1 9 M M' ∧ dgr M' 1 p.2) ∧ (∀ d M, M 138 20 = k → (∀ j, 0 ≤ j → j < nof k → M 149 j = nu j) → M 139 = g → ∃ M', E (d + 9) 204 [zR 138] M = Rt (some (zI p.1)) M' ∧ fr1 139 M M' ∧ M' 139 = p.2)
theorem nof_c {k : Int} (h : nof k ≠ 0) : k = 114 ∧ nof k = 4 ∨ k = 99 ∧ nof k = 2 ∨ k = 108 ∧ nof k = 2 ∨ k = 107 ∧ nof k = 2 ∨ k = 101 ∧ nof k = 1 := by
  unfold nof at h ⊢
  by_cases h1 : k = 114
  · rw [if_pos h1]; omega
  · rw [if_neg h1] at h ⊢
    by_cases h2 : k = 99 ∨ k = 108 ∨ k = 107
    · rw [if_pos h2]; omega
    · rw [if_neg h2] at h ⊢
      by_cases h3 : k = 101
      · rw [if_pos h3]; omega
      · rw [if_neg h3] at h
        exact absurd rfl h
theorem ex_ex (hw : WF g) (k : Int) (nu : Int → Int) (hk : nof k ≠ 0) : ∃ p, exR g k nu p := by
  rcases nof_c hk with ⟨rfl, e⟩ | ⟨rfl, e⟩ | ⟨rfl, e⟩ | ⟨rfl, e⟩ | ⟨rfl, e⟩
  · obtain ⟨v, g', w, s, -, X, Y⟩ := e_room hw (nu 0) (nu 1) (nu 2) (nu 3)
    refine ⟨(v, g'), w, s, fun d M r h1 h2 h3 h4 => ?_, fun d M h1 h2 h3 => ?_⟩
    · rw [e] at h3
      obtain ⟨M', e1, f1, d1⟩ := X d M h4
      refine ⟨M', ?_, f1, d1⟩
      rw [en_96, q_96_0 h1 h2, if_neg (by decide), if_neg (by decide), if_neg (by decide), if_pos rfl, h3 0 (by decide) (by decide), h3 1 (by decide) (by decide), h3 2 (by decide) (by decide), h3 3 (by decide) (by decide), e1, Cb_I, q_96_60 h1 h2]
    · rw [e] at h2
      obtain ⟨M', e1, f1, d1⟩ := Y d M h3
      refine ⟨M', ?_, f1, d1⟩
      rw [en_204, q_204_0, h1, if_neg (by decide), if_neg (by decide), if_neg (by decide), if_pos rfl, h2 0 (by decide) (by decide), h2 1 (by decide) (by decide), h2 2 (by decide) (by decide), h2 3 (by decide) (by decide), e1, Cb_I, q_204_76]
  · obtain ⟨v, g', w, s, -, X, Y⟩ := e_cor hw (nu 0) (nu 1)
    refine ⟨(v, g'), w, s, fun d M r h1 h2 h3 h4 => ?_, fun d M h1 h2 h3 => ?_⟩
    · rw [e] at h3
      obtain ⟨M', e1, f1, d1⟩ := X d M h4
      refine ⟨M', ?_, f1, d1⟩
      rw [en_96, q_96_0 h1 h2, if_pos rfl, h3 0 (by decide) (by decide), h3 1 (by decide) (by decide), e1, Cb_I, q_96_71 h1 h2]
    · rw [e] at h2
      obtain ⟨M', e1, f1, d1⟩ := Y d M h3
      refine ⟨M', ?_, f1, d1⟩
      rw [en_204, q_204_0, h1, if_pos rfl, h2 0 (by decide) (by decide), h2 1 (by decide) (by decide), e1, Cb_I, q_204_93]
  · obtain ⟨v, g', w, s, -, X, Y⟩ := e_lock hw (nu 0) (nu 1)
    refine ⟨(v, g'), w, s, fun d M r h1 h2 h3 h4 => ?_, fun d M h1 h2 h3 => ?_⟩
    · rw [e] at h3
      obtain ⟨M', e1, f1, d1⟩ := X d M h4
      refine ⟨M', ?_, f1, d1⟩
      rw [en_96, q_96_0 h1 h2, if_neg (by decide), if_neg (by decide), if_pos rfl, h3 0 (by decide) (by decide), h3 1 (by decide) (by decide), e1, Cb_I, q_96_82 h1 h2]
    · rw [e] at h2
      obtain ⟨M', e1, f1, d1⟩ := Y d M h3
      refine ⟨M', ?_, f1, d1⟩
      rw [en_204, q_204_0, h1, if_neg (by decide), if_neg (by decide), if_pos rfl, h2 0 (by decide) (by decide), h2 1 (by decide) (by decide), e1, Cb_I, q_204_110]
  · obtain ⟨v, g', w, s, -, X, Y⟩ := e_key hw (nu 0) (nu 1)
    refine ⟨(v, g'), w, s, fun d M r h1 h2 h3 h4 => ?_, fun d M h1 h2 h3 => ?_⟩
    · rw [e] at h3
      obtain ⟨M', e1, f1, d1⟩ := X d M h4
      refine ⟨M', ?_, f1, d1⟩
      rw [en_96, q_96_0 h1 h2, if_neg (by decide), if_pos rfl, h3 0 (by decide) (by decide), h3 1 (by decide) (by decide), e1, Cb_I, q_96_93 h1 h2]
    · rw [e] at h2
      obtain ⟨M', e1, f1, d1⟩ := Y d M h3
      refine ⟨M', ?_, f1, d1⟩
      rw [en_204, q_204_0, h1, if_neg (by decide), if_pos rfl, h2 0 (by decide) (by decide), h2 1 (by decide) (by decide), e1, Cb_I, q_204_127]
  · obtain ⟨v, g', w, s, -, X, Y⟩ := e_ent hw (nu 0)
    refine ⟨(v, g'), w, s, fun d M r h1 h2 h3 h4 => ?_, fun d M h1 h2 h3 => ?_⟩
    · rw [e] at h3
      obtain ⟨M', e1, f1, d1⟩ := X d M h4
      refine ⟨M', ?_, f1, d1⟩
      rw [en_96, q_96_0 h1 h2, if_neg (by decide), if_neg (by decide), if_neg (by decide), if_neg (by decide), h3 0 (by decide) (by decide), e1, Cb_I, q_96_101 h1 h2]
    · rw [e] at h2
      obtain ⟨M', e1, f1, d1⟩ := Y d M h3
      refine ⟨M', ?_, f1, d1⟩
      rw [en_204, q_204_0, h1, if_neg (by decide), if_neg (by decide), if_neg (by decide), if_neg (by decide), h2 0 (by decide) (by decide), e1, Cb_I, q_204_138]
noncomputable def exP (g : Int → Int) (k : Int) (nu : Int → Int) : Int × (Int → Int) := @dite _ (∃ p, exR g k nu p) (Classical.propDecidable _) (fun h => Classical.choose h) (fun _ => (0, g))
theorem exP_R (hw : WF g) {k : Int} {nu : Int → Int} (hk : nof k ≠ 0) : exR g k nu (exP g k nu) := by
  have h := ex_ex hw k nu hk
  have e : exP g k nu = Classical.choose h := dif_pos h
  rw [e]
  exact Classical.choose_spec h
/-- the rows behind the commands, their answers, the first that is refused -/
noncomputable def gsq (T : Int → Int) (n : Int) (g : Int → Int) (j : Int) : Int → Int := its (fun j h => (exP h (chr T n (cps T n j)) (crs T n j).2.2).2) g j
noncomputable def asq (T : Int → Int) (n : Int) (g : Int → Int) (j : Int) : Int := (exP (gsq T n g j) (chr T n (cps T n j)) (crs T n j).2.2).1
def rfd (T : Int → Int) (n : Int) (g : Int → Int) (j : Int) : Prop := asq T n g j < 0 ∧ asq T n g j ≠ -104
noncomputable def rS (T : Int → Int) (n : Int) (g : Int → Int) : Int := fs (rfd T n g) (kS T n + 1)
theorem gsq_s (h : 0 ≤ k) : gsq T n g (k + 1) = (exP (gsq T n g k) (chr T n (cps T n k)) (crs T n k).2.2).2 := its_s h
theorem ok_j (hn : 0 ≤ n ∧ n ≤ 60) (h : okT T n) {j : Int} (hj : 0 ≤ j ∧ j ≤ kS T n) : (crs T n j).1 = 1 ∧ (0 ≤ cps T n j ∧ cps T n j < n) ∧ nof (chr T n (cps T n j)) ≠ 0 := by
  have sp := kS_sp (T := T) hn
  have le := cps_le (T := T) hn.1 hj.1 (fun i i0 i1 => sp.2.2 i i0 (by omega))
  have ok : (crs T n j).1 = 1 := by
    by_cases e : j = kS T n
    · rw [e]; exact h.1
    · exact (sp.2.2 j hj.1 (by omega)).1
  have c := (cmd_sp (T := T) (n := n) (p := cps T n j) (by omega)).2.2 ok
  exact ⟨ok, nof_p c.2, c.2⟩
theorem gsq_W (hn : 0 ≤ n ∧ n ≤ 60) (h : okT T n) (hw : WF g) : ∀ m : Nat, (m : Int) ≤ kS T n + 1 → WF (gsq T n g m)
  | 0, _ => hw
  | m + 1, hm => by
    have i := gsq_W hn h hw m (by omega)
    have o := ok_j hn h (j := (m : Int)) (by omega)
    rw [show ((m + 1 : Nat) : Int) = (m : Int) + 1 by omega, gsq_s (by omega)]
    exact (exP_R i o.2.2).1
theorem gsq_w (hn : 0 ≤ n ∧ n ≤ 60) (h : okT T n) (hw : WF g) {j : Int} (hj : 0 ≤ j ∧ j ≤ kS T n + 1) : WF (gsq T n g j) := by
  have := gsq_W hn h hw j.toNat (by omega)
  rw [Int.toNat_of_nonneg hj.1] at this
  exact this
theorem rS_sp (hn : 0 ≤ n ∧ n ≤ 60) : (rS T n g = -1 ∧ ∀ j, 0 ≤ j → j < kS T n + 1 → ¬ rfd T n g j) ∨ ((0 ≤ rS T n g ∧ rS T n g < kS T n + 1) ∧ rfd T n g (rS T n g) ∧ ∀ j, 0 ≤ j → j < rS T n g → ¬ rfd T n g j) := by
  have sp := kS_sp (T := T) hn
  exact fs_sp (p := rfd T n g) (n := kS T n + 1) (by omega)
theorem x_execute (hn : 0 ≤ n ∧ n ≤ 60) (h : okT T n) (hw : WF g) (hd : dgr M 1 g) (hk : kS T n ≤ 19) (hc : M 84 6 = kS T n + 1) (kp : kept M T n (kS T n + 1)) : ∃ M', (∀ b, b < 1 ∨ (9 < b ∧ b ≠ 84) → M' b = M b) ∧ (∀ f, f ≠ 7 → M' 84 f = M 84 f) ∧ ((rS T n g = -1 ∧ E (d + 11) 95 [zR 84, zR 1] M = Rt (some (zI 1)) M' ∧ M' 84 = M 84 ∧ dgr M' 1 (gsq T n g (kS T n + 1))) ∨ (rS T n g ≠ -1 ∧ E (d + 11) 95 [zR 84, zR 1] M = Rt (some (zI 0)) M' ∧ M' 84 7 = cps T n (rS T n g))) := by
  have sp := kS_sp (T := T) hn
  have rp := rS_sp (T := T) (g := g) hn
  rw [en_95, q_95_0]
  refine lpi (fun i (s : ZM × ZV) => Q (d + 10) 95 2 [zR 84, zR 1, zI i, s.2] [] s.1) (fun o => ∃ M', (∀ b, b < 1 ∨ (9 < b ∧ b ≠ 84) → M' b = M b) ∧ (∀ f, f ≠ 7 → M' 84 f = M 84 f) ∧ ((rS T n g = -1 ∧ o = Rt (some (zI 1)) M' ∧ M' 84 = M 84 ∧ dgr M' 1 (gsq T n g (kS T n + 1))) ∨ (rS T n g ≠ -1 ∧ o = Rt (some (zI 0)) M' ∧ M' 84 7 = cps T n (rS T n g)))) (kS T n + 1) (fun i s => frr 1 9 M s.1 ∧ dgr s.1 1 (gsq T n g i) ∧ ∀ j, 0 ≤ j → j < i → ¬ rfd T n g j) ?_ ?_ 0 (M, zU) (by omega) ⟨frr_r, hd, fun j j0 j1 => absurd j1 (by omega)⟩
  · rintro i ⟨M1, z⟩ i0 i1 ⟨f1, d1, no⟩
    dsimp only at f1 d1 ⊢
    have o := ok_j hn h (j := i) (by omega)
    have W := gsq_w hn h hw (j := i) (by omega)
    have R := exP_R W (nu := (crs T n i).2.2) o.2.2
    obtain ⟨c1, c2, c3⟩ := kp i i0 i1
    have row := nrow (i := i) (by omega)
    obtain ⟨M2, e2, f2, d2⟩ := R.2.2.1 (d + 1) M1 (89 + i.toNat) row.1 row.2 (fun j j0 j1 => by rw [f1 (89 + i.toNat) (by omega)]; exact c3 j j0 j1) d1
    have a86 : M1 86 i = chr T n (cps T n i) := by rw [f1 86 (by omega)]; exact c1
    have F2 := frr_t f1 f2
    rw [q_95_2, f1 84 (by omega), hc, if_neg (by omega), if_pos (by omega), if_pos (by omega), a86, e2, Cb_I, q_95_26, zw_id (x := i + 1) (by omega)]
    have ev : (exP (gsq T n g i) (chr T n (cps T n i)) (crs T n i).2.2).1 = asq T n g i := rfl
    rw [ev]
    by_cases r : rfd T n g i
    · have ri : rS T n g = i := fs_at ⟨i0, i1⟩ r no
      have r1 : asq T n g i < 0 ∧ asq T n g i ≠ -104 := r
      refine Or.inl ⟨zwr M2 84 7 (M2 87 i), fun b hb => by rw [zwr_n (by omega)]; exact F2 b (by omega), fun f hf => by rw [zwr_nj hf, F2 84 (by omega)], Or.inr ⟨by omega, ?_, ?_⟩⟩
      · rw [if_neg (by omega), if_neg r1.2, if_pos (by omega)]
      · rw [zwr_at, F2 87 (by omega), ri]
        exact c2
    · have r1 : ¬ (asq T n g i < 0 ∧ asq T n g i ≠ -104) := r
      refine Or.inr ⟨(M2, zI (asq T n g i)), ?_, F2, by rw [gsq_s i0]; exact d2, fun j j0 j1 => ?_⟩
      · by_cases l : 0 ≤ asq T n g i
        · rw [if_pos l]
        · rw [if_neg l, if_pos (by omega)]
      · by_cases e : j = i
        · rw [e]; exact r
        · exact no j j0 (by omega)
  · rintro ⟨M1, z⟩ ⟨f1, d1, no⟩
    dsimp only at f1 d1 ⊢
    refine ⟨M1, fun b hb => f1 b (by omega), fun f _ => by rw [f1 84 (by omega)], Or.inl ⟨fs_no no, ?_, f1 84 (by omega), d1⟩⟩
    rw [q_95_2, f1 84 (by omega), hc, if_pos (Int.le_refl _)]
theorem m_first (hT : M 148 = T) (hn : M 138 17 = n) (hn2 : 0 ≤ n ∧ n ≤ 60) : ∃ M', fmc M M' ∧ ((¬ okT T n ∧ E (d + 6) 205 [zR 138] M = Rt (some (zI (-102))) (zwr (zwr M' 138 18 (fpos T n)) 138 17 0)) ∨ (okT T n ∧ E (d + 6) 205 [zR 138] M = Cb (E (d + 5) 162 [zR 138] M') (fun v h => zrun (zevl (d + 5)) 205 66 [zR 138, zI 1, zU, zU, zU, zU] (v.toList ++ []) h))) := by
  have sp := kS_sp (T := T) hn2
  obtain ⟨M1, e1, f1, p1, -⟩ := m_readsCommand (d := d + 1) (M := zwr M 138 19 0) (T := T) (n := n) (p := 0) (by rw [zwr_n (by decide)]; exact hT) (by rw [zwr_nj (by decide)]; exact hn) hn2 zwr_at (by omega)
  rw [en_205, q_205_0, e1, Cb_I, q_205_9]
  refine lpi (fun i (M2 : ZM) => Q (d + 5) 205 10 [zR 138, zI (crs T n i).1, zU, zU, zU, zU] [] M2) (fun o => ∃ M', fmc M M' ∧ ((¬ okT T n ∧ o = Rt (some (zI (-102))) (zwr (zwr M' 138 18 (fpos T n)) 138 17 0)) ∨ (okT T n ∧ o = Cb (E (d + 5) 162 [zR 138] M') (fun v h => zrun (zevl (d + 5)) 205 66 [zR 138, zI 1, zU, zU, zU, zU] (v.toList ++ []) h)))) 21 (fun i M2 => fmc M M2 ∧ M2 138 19 = (crs T n i).2.1 ∧ ∀ j, 0 ≤ j → j < i → cgo' T n j) ?_ ?_ 0 M1 (by omega) ⟨fmc_t (fmc_a fmc_r) f1, p1, fun j j0 j1 => absurd j1 (by omega)⟩
  · rintro i M2 i0 i1 ⟨f2, p2, C2⟩
    have c17 : M2 138 17 = n := (f2.2 17 (by decide) (by decide)).trans hn
    have cT : M2 148 = T := (f2.1 148 (by decide) (by decide)).trans hT
    have le := cps_le (T := T) hn2.1 i0 C2
    have cs := cmd_sp (T := T) (n := n) (p := cps T n i) (by omega)
    have ec : cmd T n (cps T n i) = crs T n i := rfl
    rw [ec] at cs
    rw [q_205_10]
    by_cases ok : (crs T n i).1 = 0
    · have ks : kS T n = i := kS_at (by omega) C2 (fun z => by have := z.1; omega)
      have nt : ¬ okT T n := fun z => by
        unfold okT at z
        rw [ks] at z
        omega
      have fp : fpos T n = (crs T n i).2.1 := by unfold fpos; rw [ks]
      exact Or.inl ⟨M2, f2, Or.inl ⟨nt, by rw [if_pos ok, if_pos ok, p2, fp]⟩⟩
    · have ok1 : (crs T n i).1 = 1 := cs.1.resolve_left ok
      have ea := m_eats (d := d + 4) (M := M2) (c := 59) cT c17 hn2 p2 (by omega) (by decide)
      rw [if_neg ok, ea]
      by_cases c59 : chr T n (crs T n i).2.1 = 59
      · have en := chr_n (T := T) (n := n) (q := (crs T n i).2.1) (by omega)
        have ci : cgo' T n i := ⟨ok1, en.2, c59⟩
        have C3 : ∀ j, 0 ≤ j → j < i + 1 → cgo' T n j := fun j j0 j1 => by
          by_cases e : j = i
          · rw [e]; exact ci
          · exact C2 j j0 (by omega)
        have nx := cps_s (T := T) (n := n) i0
        obtain ⟨M3, e3, f3, p3, -⟩ := m_readsCommand (d := d + 1) (M := zwr M2 138 19 ((crs T n i).2.1 + 1)) (T := T) (n := n) (p := (crs T n i).2.1 + 1) (by rw [zwr_n (by decide)]; exact cT) (by rw [zwr_nj (by decide)]; exact c17) hn2 zwr_at (by omega)
        rw [← nx] at e3 p3
        rw [if_pos c59, Cb_I, q_205_20, if_neg (by decide), ← nx, e3, Cb_I, q_205_27]
        exact Or.inr ⟨M3, rfl, fmc_t f2 (fmc_t (fmc_a fmc_r) f3), p3, C3⟩
      · have ks : kS T n = i := by
          refine kS_at ⟨i0, by omega⟩ C2 (fun z => c59 z.2.2)
        rw [if_neg c59, Cb_I, q_205_20, if_pos rfl, if_neg ok, c17, p2]
        by_cases en : (crs T n i).2.1 = n
        · have yt : okT T n := by
            unfold okT
            rw [ks]
            exact ⟨ok1, en⟩
          rw [if_pos (by omega), ok1]
          exact Or.inl ⟨M2, f2, Or.inr ⟨yt, rfl⟩⟩
        · have nt : ¬ okT T n := fun z => by
            unfold okT at z
            rw [ks] at z
            omega
          have fp : fpos T n = (crs T n i).2.1 := by unfold fpos; rw [ks]
          rw [if_neg (by omega), fp]
          exact Or.inl ⟨M2, f2, Or.inl ⟨nt, rfl⟩⟩
  · rintro M2 ⟨f2, p2, C2⟩
    have le := cps_le (T := T) (k := 21) hn2.1 (by omega) C2
    omega
/-- the same but for a reading's cells of the reference -/
def fmd (M M' : ZM) : Prop := (∀ b, b ≠ 138 → b ≠ 139 → b ≠ 149 → M' b = M b) ∧ ∀ f, f ≠ 17 → f ≠ 18 → f ≠ 19 → f ≠ 20 → M' 138 f = M 138 f
theorem m_second (hT : M 148 = T) (hn : M 138 17 = n) (hn2 : 0 ≤ n ∧ n ≤ 60) (h : okT T n) (hw : WF g) (hg : M 139 = g) (hh : 0 ≤ M 138 2 ∧ M 138 2 ≤ 6) (ha : agr 124 (M 142) g) : (rS T n g = -1 ∧ ∃ M', fmd M M' ∧ M' 139 = gsq T n g (kS T n + 1) ∧ M' 138 17 = 0 ∧ M' 138 18 = -104 ∧ ∀ Mf, E (d + 12) 163 [zR 138] M' = Rt none Mf → Q (d + 12) 205 66 [zR 138, zI 1, zU, zU, zU, zU] [] M = Rt (some (zI (kS T n + 1))) Mf) ∨ (rS T n g ≠ -1 ∧ ∃ M', Q (d + 12) 205 66 [zR 138, zI 1, zU, zU, zU, zU] [] M = Rt (some (zI (-105))) M' ∧ fmd M M' ∧ agr 124 (M' 139) g ∧ M' 138 17 = 0 ∧ M' 138 18 = cps T n (rS T n g)) := by
  have sp := kS_sp (T := T) hn2
  have rp := rS_sp (T := T) (g := g) hn2
  rw [q_205_66]
  refine lpi (fun i (s : ZM × Int × Int × ZV) => Q (d + 12) 205 75 [zR 138, zI s.2.1, zI i, zI s.2.2.1, s.2.2.2, zU] [] s.1) (fun o => (rS T n g = -1 ∧ ∃ M', fmd M M' ∧ M' 139 = gsq T n g (kS T n + 1) ∧ M' 138 17 = 0 ∧ M' 138 18 = -104 ∧ ∀ Mf, E (d + 12) 163 [zR 138] M' = Rt none Mf → o = Rt (some (zI (kS T n + 1))) Mf) ∨ (rS T n g ≠ -1 ∧ ∃ M', o = Rt (some (zI (-105))) M' ∧ fmd M M' ∧ agr 124 (M' 139) g ∧ M' 138 17 = 0 ∧ M' 138 18 = cps T n (rS T n g))) (kS T n + 1) (fun i s => (∀ b, b ≠ 138 → b ≠ 139 → b ≠ 149 → s.1 b = M b) ∧ (∀ f, f ≠ 19 → f ≠ 20 → s.1 138 f = M 138 f) ∧ s.1 139 = gsq T n g i ∧ (s.1 138 19 = if i = kS T n + 1 then n else cps T n i) ∧ ∀ j, 0 ≤ j → j < i → ¬ rfd T n g j) ?_ ?_ 0 (zwr M 138 19 0, 1, 0, zU) (by omega) ⟨fun b b1 b2 b3 => zwr_n b1, fun f f1 f2 => zwr_nj f1, by dsimp only; rw [zwr_n (by decide)]; exact hg, by dsimp only; rw [zwr_at, if_neg (by omega)]; rfl, fun j j0 j1 => absurd j1 (by omega)⟩
  · rintro i ⟨M1, s1, s2, z⟩ i0 i1 ⟨F1, G1, g1, p1, no⟩
    dsimp only at F1 G1 g1 p1 ⊢
    rw [if_neg (by omega)] at p1
    have o := ok_j hn2 h (j := i) (by omega)
    have W := gsq_w hn2 h hw (j := i) (by omega)
    have R := exP_R W (nu := (crs T n i).2.2) o.2.2
    have cT : M1 148 = T := (F1 148 (by decide) (by decide) (by decide)).trans hT
    have c17 : M1 138 17 = n := (G1 17 (by decide) (by decide)).trans hn
    obtain ⟨M2, e2, f2, p2, v2⟩ := m_readsCommand (d := d + 8) (M := M1) (T := T) (n := n) (p := cps T n i) cT c17 hn2 p1 (by omega)
    have ec : cmd T n (cps T n i) = crs T n i := rfl
    rw [ec] at e2 p2 v2
    have w := v2 o.1
    obtain ⟨M3, e3, f3, g3⟩ := R.2.2.2 (d + 3) M2 w.1 w.2 ((f2.1 139 (by decide) (by decide)).trans g1)
    have ev : (exP (gsq T n g i) (chr T n (cps T n i)) (crs T n i).2.2).1 = asq T n g i := rfl
    rw [ev] at e3
    have c38 : M3 138 = M2 138 := f3 138 (by decide)
    have F3 : ∀ b, b ≠ 138 → b ≠ 139 → b ≠ 149 → M3 b = M b := fun b b1 b2 b3 => ((f3 b b2).trans (f2.1 b b1 b3)).trans (F1 b b1 b2 b3)
    have G3 : ∀ f, f ≠ 19 → f ≠ 20 → M3 138 f = M 138 f := fun f q1 q2 => by rw [c38, f2.2 f q1 q2]; exact G1 f q1 q2
    have cT3 : M3 148 = T := (F3 148 (by decide) (by decide) (by decide)).trans hT
    have c173 : M3 138 17 = n := (G3 17 (by decide) (by decide)).trans hn
    have p3 : M3 138 19 = (crs T n i).2.1 := by rw [c38]; exact p2
    have le := cps_le (T := T) hn2.1 i0 (fun j j0 j1 => sp.2.2 j j0 (by omega))
    have cs := cmd_sp (T := T) (n := n) (p := cps T n i) (by omega)
    rw [ec] at cs
    rw [q_205_75, c17, p1, if_neg (by omega), e2, Cb_I, q_205_95, e3, Cb_I, q_205_100, zw_id (x := i + 1) (by omega)]
    by_cases r : rfd T n g i
    · have ri : rS T n g = i := fs_at ⟨i0, i1⟩ r no
      have r1 : asq T n g i < 0 ∧ asq T n g i ≠ -104 := r
      rw [if_neg (by omega), if_neg r1.2]
      refine Or.inl (Or.inr ⟨by omega, ?_⟩)
      refine lpi (fun j (M4 : ZM) => Q (d + 12) 205 117 [zR 138, zI (crs T n i).1, zI i, zI (cps T n i), zI (asq T n g i), zI j] [] M4) (fun o => ∃ M', o = Rt (some (zI (-105))) M' ∧ fmd M M' ∧ agr 124 (M' 139) g ∧ M' 138 17 = 0 ∧ M' 138 18 = cps T n (rS T n g)) 124 (fun j M4 => (∀ b, b ≠ 139 → M4 b = M3 b) ∧ agr j (M4 139) g) ?_ ?_ 0 M3 (by omega) ⟨fun _ _ => rfl, fun j j0 j1 => absurd j1 (by omega)⟩
      · rintro j M4 j0 j1 ⟨q1, q2⟩
        have m42 : M4 142 j = g j := by rw [q1 142 (by decide), F3 142 (by decide) (by decide) (by decide)]; exact ha j j0 j1
        refine Or.inr ⟨zwr M4 139 j (g j), ?_, fun b hb => by rw [zwr_n hb]; exact q1 b hb, fun i i0 i1 => ?_⟩
        · rw [q_205_117, if_neg (by omega), if_pos ⟨j0, j1⟩, if_pos ⟨j0, j1⟩, m42, zw_id (by omega)]
        · rw [zwr_u]
          by_cases e : i = j
          · rw [e, up1_s]
          · rw [up1_n e]; exact q2 i i0 (by omega)
      · rintro M4 ⟨q1, q2⟩
        refine ⟨zwr (zwr M4 138 18 (cps T n i)) 138 17 0, by rw [q_205_117, if_pos (Int.le_refl _)], ⟨fun b b1 b2 b3 => by rw [zwr_n b1, zwr_n b1, q1 b b2]; exact F3 b b1 b2 b3, fun f f1 f2 f3 f4 => by rw [zwr_nj f1, zwr_nj f2, q1 138 (by decide)]; exact G3 f f3 f4⟩, by rw [zwr_n (by decide), zwr_n (by decide)]; exact q2, zwr_at, by rw [zwr_nj (by decide), zwr_at, ri]⟩
    · have r1 : ¬ (asq T n g i < 0 ∧ asq T n g i ≠ -104) := r
      have ea := m_eats (d := d + 11) (M := M3) (c := 59) cT3 c173 hn2 p3 (by omega) (by decide)
      have no' : ∀ j, 0 ≤ j → j < i + 1 → ¬ rfd T n g j := fun j j0 j1 => by
        by_cases e : j = i
        · rw [e]; exact r
        · exact no j j0 (by omega)
      have nx := cps_s (T := T) (n := n) i0
      have both : (if 0 ≤ asq T n g i then (Cb (E (d + 12) 200 [zR 138, zI 59] M3) (fun v h => zrun (zevl (d + 12)) 205 166 [zR 138, zI (crs T n i).1, zI (i + 1), zI (cps T n i), zI (asq T n g i), zU] (v.toList ++ []) h)) else (if asq T n g i = (-104) then (Cb (E (d + 12) 200 [zR 138, zI 59] M3) (fun v h => zrun (zevl (d + 12)) 205 166 [zR 138, zI (crs T n i).1, zI (i + 1), zI (cps T n i), zI (asq T n g i), zU] (v.toList ++ []) h)) else (Q (d + 12) 205 117 [zR 138, zI (crs T n i).1, zI i, zI (cps T n i), zI (asq T n g i), zI 0] [] M3))) = Cb (E (d + 12) 200 [zR 138, zI 59] M3) (fun v h => zrun (zevl (d + 12)) 205 166 [zR 138, zI (crs T n i).1, zI (i + 1), zI (cps T n i), zI (asq T n g i), zU] (v.toList ++ []) h) := by
        by_cases l : 0 ≤ asq T n g i
        · rw [if_pos l]
        · rw [if_neg l, if_pos (by omega)]
      rw [both, ea]
      by_cases il : i = kS T n
      · have en : (crs T n i).2.1 = n := by rw [il]; exact h.2
        have c0 : chr T n (crs T n i).2.1 ≠ 59 := by rw [chr_0 (by omega)]; decide
        rw [if_neg c0, Cb_I, q_205_166]
        exact Or.inr ⟨(M3, 0, cps T n i, zI (asq T n g i)), rfl, F3, G3, by rw [gsq_s i0]; exact g3, by dsimp only; rw [if_pos (by omega), p3, en], no'⟩
      · have c59 := (sp.2.2 i i0 (by omega)).2.2
        rw [if_pos c59, Cb_I, q_205_166]
        exact Or.inr ⟨(zwr M3 138 19 ((crs T n i).2.1 + 1), 1, cps T n i, zI (asq T n g i)), rfl, fun b b1 b2 b3 => (zwr_n b1).trans (F3 b b1 b2 b3), fun f f1 f2 => (zwr_nj f1).trans (G3 f f1 f2), by dsimp only; rw [zwr_n (by decide), gsq_s i0]; exact g3, by dsimp only; rw [zwr_at, if_neg (by omega), nx], no'⟩
  · rintro ⟨M1, s1, s2, z⟩ ⟨F1, G1, g1, p1, no⟩
    dsimp only at F1 G1 g1 p1 ⊢
    rw [if_pos rfl] at p1
    refine Or.inl ⟨fs_no no, zwr (zwr M1 138 18 (-104)) 138 17 0, ⟨fun b b1 b2 b3 => by rw [zwr_n b1, zwr_n b1]; exact F1 b b1 b2 b3, fun f f1 f2 f3 f4 => by rw [zwr_nj f1, zwr_nj f2]; exact G1 f f3 f4⟩, by rw [zwr_n (by decide), zwr_n (by decide)]; exact g1, zwr_at, by rw [zwr_nj (by decide), zwr_at], fun Mf ef => ?_⟩
    rw [q_205_75, p1, G1 17 (by decide) (by decide), hn, if_pos (Int.le_refl _), ef, Cb_V, q_205_185]
end
