/-! the reference's commands; whole texts -/
section
variable {d : Nat} {M : ZM} {T : Int → Int} {n p : Int}
theorem m_eats {c : Int} (hT : M 148 = T) (hn : M 138 17 = n) (hn2 : 0 ≤ n ∧ n ≤ 60) (hq : M 138 19 = p) (hp : 0 ≤ p ∧ p ≤ n) (hc : c ≠ 0) : E (d + 1) 200 [zR 138, zI c] M = if chr T n p = c then Rt (some (zI 1)) (zwr M 138 19 (p + 1)) else Rt (some (zI 0)) M := by
  rw [en_200, q_200_0, hn, hq, hT, zw_id (by omega)]
  unfold chr
  by_cases k : n ≤ p
  · rw [if_pos k, if_neg (show ¬ (0 ≤ p ∧ p < n) by omega), if_neg (fun z => hc z.symm)]
  · rw [if_neg k, if_pos (by omega), if_pos (show 0 ≤ p ∧ p < n by omega)]
/-- the same but for a command's cells -/
def fmc (M M' : ZM) : Prop := (∀ b, b ≠ 138 → b ≠ 149 → M' b = M b) ∧ ∀ f, f ≠ 19 → f ≠ 20 → M' 138 f = M 138 f
theorem fmc_r : fmc M M := ⟨fun _ _ _ => rfl, fun _ _ _ => rfl⟩
theorem fmc_t {M' M'' : ZM} (h : fmc M M') (k : fmc M' M'') : fmc M M'' := ⟨fun b p q => (k.1 b p q).trans (h.1 b p q), fun f p q => (k.2 f p q).trans (h.2 f p q)⟩
theorem fmc_a {v : Int} {M' : ZM} (h : fmc M M') : fmc M (zwr M' 138 19 v) := ⟨fun b p q => (zwr_n p).trans (h.1 b p q), fun f p q => by rw [zwr_nj p]; exact h.2 f p q⟩
theorem fmc_l {v : Int} {M' : ZM} (h : fmc M M') : fmc M (zwr M' 138 20 v) := ⟨fun b p q => (zwr_n p).trans (h.1 b p q), fun f p q => by rw [zwr_nj q]; exact h.2 f p q⟩
theorem fmc_n {i v : Int} {M' : ZM} (h : fmc M M') : fmc M (zwr M' 149 i v) := ⟨fun b p q => (zwr_n q).trans (h.1 b p q), fun f p q => by rw [zwr_ne (by decide)]; exact h.2 f p q⟩
theorem m_number {i q : Int} (hi : 0 ≤ i ∧ i < 4) (hT : M 148 = T) (hn : M 138 17 = n) (hn2 : 0 ≤ n ∧ n ≤ 60) (hq : M 138 19 = q) (hq2 : 0 ≤ q ∧ q ≤ n) : ∃ M', E (d + 2) 202 [zR 138, zI i] M = Rt (some (zI (nuS T n q).1)) M' ∧ fmc M M' ∧ M' 138 19 = (nuS T n q).2.1 ∧ (∀ j, j ≠ i → M' 149 j = M 149 j) ∧ M' 138 20 = M 138 20 ∧ ((nuS T n q).1 = 1 → M' 149 i = (nuS T n q).2.2) := by
  rw [en_202, q_202_0, if_pos hi, hq]
  generalize hM0 : zwr M 149 i 0 = M0
  have a17 : M0 138 17 = n := by rw [← hM0, zwr_ne (by decide)]; exact hn
  have a19 : M0 138 19 = q := by rw [← hM0, zwr_ne (by decide)]; exact hq
  have a20 : M0 138 20 = M 138 20 := by rw [← hM0, zwr_ne (by decide)]
  have aT : M0 148 = T := by rw [← hM0, zwr_n (by decide)]; exact hT
  have a0 : M0 149 i = 0 := by rw [← hM0, zwr_at]
  have F0 : fmc M M0 := by rw [← hM0]; exact fmc_n fmc_r
  have o0 : ∀ j, j ≠ i → M0 149 j = M 149 j := fun j hj => by rw [← hM0, zwr_nj hj]
  rw [q_202_12, a17, a19]
  by_cases dg : 48 ≤ chr T n q ∧ chr T n q ≤ 57
  · have qn := chr_n (T := T) (n := n) (q := q) (by omega)
    have cq : T q = chr T n q := (if_pos qn).symm
    have b0 : Q (d + 1) 202 12 [zR 138, zI i, zI q] [] (zwr (zwr M0 149 i (chr T n q - 48)) 138 19 (q + 1)) = _ := rfl
    generalize hM1 : zwr (zwr M0 149 i (chr T n q - 48)) 138 19 (q + 1) = M1 at b0
    have c17 : M1 138 17 = n := by rw [← hM1, zwr_nj (by decide), zwr_ne (by decide)]; exact a17
    have c19 : M1 138 19 = q + 1 := by rw [← hM1, zwr_at]
    have c20 : M1 138 20 = M 138 20 := by rw [← hM1, zwr_nj (by decide), zwr_ne (by decide)]; exact a20
    have cT : M1 148 = T := by rw [← hM1, zwr_n (by decide), zwr_n (by decide)]; exact aT
    have c0 : M1 149 i = chr T n q - 48 := by rw [← hM1, zwr_ne (by decide), zwr_at]
    have F1 : fmc M M1 := by rw [← hM1]; exact fmc_a (fmc_n F0)
    have o1 : ∀ j, j ≠ i → M1 149 j = M 149 j := fun j hj => by rw [← hM1, zwr_ne (by decide), zwr_nj hj]; exact o0 j hj
    have step : (if n ≤ q then (if q ≤ q then (Rt (some (zI 0)) M0) else (Rt (some (zI 1)) M0)) else (if 2 ≤ (zw (q - q)) then (if q ≤ q then (Rt (some (zI 0)) M0) else (Rt (some (zI 1)) M0)) else (if 0 ≤ q ∧ q < 60 then Cb (E (d + 1) 153 [zI (M0 148 q), zI 48, zI 57] M0) (fun v h => zrun (zevl (d + 1)) 202 49 [zR 138, zI i, zI q] (v.toList ++ []) h) else none))) = Q (d + 1) 202 12 [zR 138, zI i, zI q] [] M1 := by
      rw [if_neg (by omega), zw_id (x := q - q) (by omega), if_neg (by omega), if_pos (by omega), m_in, Cb_I, q_202_49, aT, cq, if_neg (bI_n0.2 dg), if_pos hi, a19, if_pos (by omega), if_pos hi, a0, cq, zwr_ne (by decide), a19, zw_id (x := 10 * 0) (by omega), zw_id (x := 10 * 0 + chr T n q) (by omega), zw_id (x := 10 * 0 + chr T n q - 48) (by omega), zw_id (x := q + 1) (by omega), show 10 * 0 + chr T n q - 48 = chr T n q - 48 by omega, hM1]
    rw [step, q_202_12, c17, c19]
    have val1 : ¬ (48 ≤ chr T n (q + 1) ∧ chr T n (q + 1) ≤ 57) → nuS T n q = (1, q + 1, chr T n q - 48) := fun z => by
      unfold nuS
      rw [if_pos dg, if_neg z]
    by_cases dg2 : 48 ≤ chr T n (q + 1) ∧ chr T n (q + 1) ≤ 57
    · have qn2 := chr_n (T := T) (n := n) (q := q + 1) (by omega)
      have cq2 : T (q + 1) = chr T n (q + 1) := (if_pos qn2).symm
      have val2 : nuS T n q = (1, q + 2, 10 * (chr T n q - 48) + chr T n (q + 1) - 48) := by
        unfold nuS
        rw [if_pos dg, if_pos dg2]
      refine ⟨zwr (zwr M1 149 i (10 * (chr T n q - 48) + chr T n (q + 1) - 48)) 138 19 (q + 2), ?_, fmc_a (fmc_n F1), by rw [val2, zwr_at], fun j hj => by rw [zwr_ne (by decide), zwr_nj hj]; exact o1 j hj, by rw [zwr_nj (by decide), zwr_ne (by decide)]; exact c20, fun _ => by rw [val2, zwr_ne (by decide), zwr_at]⟩
      rw [if_neg (by omega), zw_id (x := q + 1 - q) (by omega), if_neg (by omega), if_pos (by omega), m_in, Cb_I, q_202_49, cT, cq2, if_neg (bI_n0.2 dg2), if_pos hi, c19, if_pos (by omega), if_pos hi, c0, cq2, zwr_ne (by decide), c19, zw_id (x := 10 * (chr T n q - 48)) (by omega), zw_id (x := 10 * (chr T n q - 48) + chr T n (q + 1)) (by omega), zw_id (x := 10 * (chr T n q - 48) + chr T n (q + 1) - 48) (by omega), zw_id (x := q + 1 + 1) (by omega), show q + 1 + 1 = q + 2 by omega, q_202_12, zwr_at, zwr_nj (by decide), zwr_ne (by decide), c17, val2]
      by_cases l : n ≤ q + 2
      · rw [if_pos l, if_neg (by omega)]
      · rw [if_neg l, zw_id (x := q + 2 - q) (by omega), if_pos (by omega), if_neg (by omega)]
    · have val := val1 dg2
      refine ⟨M1, ?_, F1, by rw [val]; exact c19, o1, c20, fun _ => by rw [val]; exact c0⟩
      rw [val]
      by_cases l : n ≤ q + 1
      · rw [if_pos l, if_neg (by omega)]
      · have cq2 : T (q + 1) = chr T n (q + 1) := (if_pos (by omega)).symm
        rw [if_neg l, zw_id (x := q + 1 - q) (by omega), if_neg (by omega), if_pos (by omega), m_in, Cb_I, q_202_49, cT, cq2, if_pos (bI_0.2 dg2), c19, if_neg (by omega)]
  · have val : nuS T n q = (0, q, 0) := by
      unfold nuS
      rw [if_neg dg]
    refine ⟨M0, ?_, F0, by rw [val]; exact a19, o0, a20, fun z => by rw [val] at z; exact absurd z (show ¬ (0 : Int) = 1 by decide)⟩
    rw [val]
    by_cases l : n ≤ q
    · rw [if_pos l, if_pos (Int.le_refl _)]
    · have cq : T q = chr T n q := (if_pos (by omega)).symm
      rw [if_neg l, zw_id (x := q - q) (by omega), if_neg (by omega), if_pos (by omega), m_in, Cb_I, q_202_49, aT, cq, if_pos (bI_0.2 dg), a19, if_pos (Int.le_refl _)]
theorem m_readsCommand (hT : M 148 = T) (hn : M 138 17 = n) (hn2 : 0 ≤ n ∧ n ≤ 60) (hp : M 138 19 = p) (hp2 : 0 ≤ p ∧ p ≤ n) : ∃ M', E (d + 4) 203 [zR 138] M = Rt (some (zI (cmd T n p).1)) M' ∧ fmc M M' ∧ M' 138 19 = (cmd T n p).2.1 ∧ ((cmd T n p).1 = 1 → M' 138 20 = chr T n p ∧ ∀ j, 0 ≤ j → j < nof (chr T n p) → M' 149 j = (cmd T n p).2.2 j) := by
  have kind : ∀ N : ZM, E (d + 3) 201 [zI (chr T n p)] N = Rt (some (zI (nof (chr T n p)))) N := by
    intro N
    rw [en_201, q_201_0]
    unfold nof
    generalize chr T n p = c
    by_cases h1 : c = 114
    · rw [if_neg (fun q => q h1), if_pos h1]
    · rw [if_pos h1, if_neg h1]
      by_cases h2 : c = 99
      · rw [if_pos h2, if_pos (by omega)]
      · rw [if_neg h2]
        by_cases h3 : c = 108
        · rw [if_pos h3, if_pos (by omega)]
        · rw [if_neg h3]
          by_cases h4 : c = 107
          · rw [if_neg (fun q => q h4), if_pos (by omega)]
          · rw [if_pos h4]
            by_cases h5 : c = 101
            · rw [if_neg (fun q => q h5), if_neg (by omega), if_pos h5]
            · rw [if_pos h5, if_neg (by omega), if_neg h5]
  have nr := nof_rg (chr T n p)
  generalize hM0 : zwr M 138 20 (chr T n p) = M0
  have a17 : M0 138 17 = n := by rw [← hM0, zwr_nj (by decide)]; exact hn
  have a19 : M0 138 19 = p := by rw [← hM0, zwr_nj (by decide)]; exact hp
  have a20 : M0 138 20 = chr T n p := by rw [← hM0, zwr_at]
  have aT : M0 148 = T := by rw [← hM0, zwr_n (by decide)]; exact hT
  have F0 : fmc M M0 := by rw [← hM0]; exact fmc_l fmc_r
  have st : E (d + 4) 203 [zR 138] M = Q (d + 3) 203 35 [zR 138, zU, zU] [zI (nof (chr T n p))] M0 := by
    rw [en_203, q_203_0, hn, hp, hT]
    by_cases l : n ≤ p
    · have c0 : chr T n p = 0 := chr_0 l
      rw [if_pos l, zwr_at, ← hM0]
      have := kind (zwr M 138 20 (chr T n p))
      rw [c0] at this ⊢
      rw [this, Cb_I]
    · have cq : T p = chr T n p := (if_pos (by omega)).symm
      rw [if_neg l, if_pos (by omega), zwr_at, cq, kind, Cb_I, hM0]
  rw [st, q_203_35]
  by_cases k : nof (chr T n p) = 0
  · have e : cmd T n p = (0, p, fun _ => 0) := if_pos k
    rw [if_neg (fun q => q k), e]
    exact ⟨M0, rfl, F0, a19, fun z => absurd z (show ¬ (0 : Int) = 1 by decide)⟩
  · have e : cmd T n p = agN T n p (nof (chr T n p)) := if_neg k
    have pn := nof_p k
    rw [if_pos k, a19, zw_id (x := p + 1) (by omega), e]
    refine lpi (fun t (M1 : ZM) => Q (d + 3) 203 54 [zR 138, zI (nof (chr T n p)), zI t] [] M1) (fun o => ∃ M', o = Rt (some (zI (agN T n p (nof (chr T n p))).1)) M' ∧ fmc M M' ∧ M' 138 19 = (agN T n p (nof (chr T n p))).2.1 ∧ ((agN T n p (nof (chr T n p))).1 = 1 → M' 138 20 = chr T n p ∧ ∀ j, 0 ≤ j → j < nof (chr T n p) → M' 149 j = (agN T n p (nof (chr T n p))).2.2 j)) (nof (chr T n p)) (fun t M1 => fmc M M1 ∧ M1 138 20 = chr T n p ∧ (agN T n p t).1 = 1 ∧ M1 138 19 = (agN T n p t).2.1 ∧ ∀ j, 0 ≤ j → j < t → M1 149 j = (agN T n p t).2.2 j) ?_ ?_ 0 (zwr M0 138 19 (p + 1)) (by omega) ⟨fmc_a F0, by rw [zwr_nj (by decide)]; exact a20, rfl, zwr_at, fun j j0 j1 => absurd j1 (by omega)⟩
    · rintro t M1 t0 t1 ⟨F1, k1, ok, pos, nums⟩
      have sp := ag_sp (T := T) pn t.toNat
      rw [Int.toNat_of_nonneg t0] at sp
      have cT : M1 148 = T := (F1.1 148 (by decide) (by decide)).trans hT
      have c17 : M1 138 17 = n := (F1.2 17 (by decide) (by decide)).trans hn
      have nx := ag_s (T := T) (n := n) (p := p) t0
      generalize hs : agN T n p t = s at *
      have fail : (agS T n t s).1 = 0 → ∀ M2, Q (d + 3) 203 54 [zR 138, zI (nof (chr T n p)), zI t] [] M1 = Rt (some (zI 0)) M2 → fmc M M2 → M2 138 19 = (agS T n t s).2.1 → (∃ M', Q (d + 3) 203 54 [zR 138, zI (nof (chr T n p)), zI t] [] M1 = Rt (some (zI (agN T n p (nof (chr T n p))).1)) M' ∧ fmc M M' ∧ M' 138 19 = (agN T n p (nof (chr T n p))).2.1 ∧ ((agN T n p (nof (chr T n p))).1 = 1 → M' 138 20 = chr T n p ∧ ∀ j, 0 ≤ j → j < nof (chr T n p) → M' 149 j = (agN T n p (nof (chr T n p))).2.2 j)) := by
        intro z M2 e2 F2 p2
        have st := ag_st (T := T) (n := n) (p := p) (t := t + 1) (by omega) (by rw [nx]; exact z) (nof (chr T n p) - (t + 1)).toNat
        rw [show t + 1 + ((nof (chr T n p) - (t + 1)).toNat : Int) = nof (chr T n p) by omega] at st
        rw [st, nx]
        exact ⟨M2, by rw [z]; exact e2, F2, p2, fun w => by omega⟩
      have atq : ∀ (q : Int) (M2 : ZM), q = sk t s.2.1 → ¬ (0 < t ∧ chr T n s.2.1 ≠ 44) → fmc M M2 → M2 138 20 = chr T n p → M2 138 19 = q → (∀ j, 0 ≤ j → j < t → M2 149 j = s.2.2 j) → Q (d + 3) 203 54 [zR 138, zI (nof (chr T n p)), zI t] [] M1 = Cb (E (d + 3) 202 [zR 138, zI t] M2) (fun v h => zrun (zevl (d + 3)) 203 77 [zR 138, zI (nof (chr T n p)), zI t] (v.toList ++ []) h) → (∃ M', Q (d + 3) 203 54 [zR 138, zI (nof (chr T n p)), zI t] [] M1 = Rt (some (zI (agN T n p (nof (chr T n p))).1)) M' ∧ fmc M M' ∧ M' 138 19 = (agN T n p (nof (chr T n p))).2.1 ∧ ((agN T n p (nof (chr T n p))).1 = 1 → M' 138 20 = chr T n p ∧ ∀ j, 0 ≤ j → j < nof (chr T n p) → M' 149 j = (agN T n p (nof (chr T n p))).2.2 j)) ∨ ∃ s', Q (d + 3) 203 54 [zR 138, zI (nof (chr T n p)), zI t] [] M1 = Q (d + 3) 203 54 [zR 138, zI (nof (chr T n p)), zI (t + 1)] [] s' ∧ fmc M s' ∧ s' 138 20 = chr T n p ∧ (agN T n p (t + 1)).1 = 1 ∧ s' 138 19 = (agN T n p (t + 1)).2.1 ∧ ∀ j, 0 ≤ j → j < t + 1 → s' 149 j = (agN T n p (t + 1)).2.2 j := by
        intro q M2 hq hno F2 k2 p2 n2 go
        have va : agS T n t s = ((nuS T n q).1, (nuS T n q).2.1, up1 s.2.2 t (nuS T n q).2.2) := by
          unfold agS
          rw [if_neg (by omega), if_neg hno, hq]
        have qn : 0 ≤ q ∧ q ≤ n := by
          rw [hq]
          unfold sk
          by_cases m : 0 < t
          · have := chr_n (T := T) (n := n) (q := s.2.1) (fun e => hno ⟨m, by omega⟩)
            rw [if_pos m]
            omega
          · rw [if_neg m]
            omega
        obtain ⟨M3, e3, F3, p3, o3, k3, v3⟩ := m_number (d := d + 1) (M := M2) (i := t) (q := q) (by omega) ((F2.1 148 (by decide) (by decide)).trans hT) ((F2.2 17 (by decide) (by decide)).trans hn) hn2 p2 qn
        rw [e3, Cb_I, q_203_77, zw_id (x := t + 1) (by omega)] at go
        by_cases dg : (nuS T n q).1 = 0
        · rw [if_neg (fun z => z dg)] at go
          exact Or.inl (fail (by rw [va]; exact dg) M3 go (fmc_t F2 F3) (by rw [va]; exact p3))
        · have d1 : (nuS T n q).1 = 1 := by
            have := nu_sp (T := T) (n := n) (q := q) qn
            omega
          rw [if_pos dg] at go
          refine Or.inr ⟨M3, go, fmc_t F2 F3, k3.trans k2, by rw [nx, va]; exact d1, by rw [nx, va]; exact p3, fun j j0 j1 => ?_⟩
          rw [nx, va]
          dsimp only
          by_cases ej : j = t
          · rw [ej, up1_s]
            exact v3 d1
          · rw [up1_n ej, o3 j ej]
            exact n2 j j0 (by omega)
      by_cases m : 0 < t
      · have sks := m_eats (d := d + 2) (M := M1) (c := 44) cT c17 hn2 pos (by omega) (by decide)
        by_cases c44 : chr T n s.2.1 = 44
        · refine atq (s.2.1 + 1) (zwr M1 138 19 (s.2.1 + 1)) (by unfold sk; rw [if_pos m]) (fun z => z.2 c44) (fmc_a F1) (by rw [zwr_nj (by decide)]; exact k1) zwr_at (fun j j0 j1 => by rw [zwr_ne (by decide)]; exact nums j j0 j1) ?_
          rw [q_203_54, if_neg (by omega), if_neg (by omega), sks, if_pos c44, Cb_I, q_203_69, if_neg (by decide)]
        · refine Or.inl (fail ?_ M1 ?_ F1 ?_)
          · unfold agS
            rw [if_neg (by omega), if_pos ⟨m, c44⟩]
          · rw [q_203_54, if_neg (by omega), if_neg (by omega), sks, if_neg c44, Cb_I, q_203_69, if_pos rfl]
          · unfold agS
            rw [if_neg (by omega), if_pos ⟨m, c44⟩, pos]
      · refine atq s.2.1 M1 (by unfold sk; rw [if_neg m]) (fun z => m z.1) F1 k1 pos nums ?_
        rw [q_203_54, if_neg (by omega), if_pos (by omega)]
    · rintro M1 ⟨F1, k1, ok, pos, nums⟩
      exact ⟨M1, by rw [q_203_54, if_pos (Int.le_refl _), ok], F1, pos, fun _ => ⟨k1, nums⟩⟩
end
/-- the place of a command, the commands up to which a text goes on -/
def cps (T : Int → Int) (n k : Int) : Int := its (fun _ p => (cmd T n p).2.1 + 1) 0 k
def crs (T : Int → Int) (n k : Int) : Int × Int × (Int → Int) := cmd T n (cps T n k)
def cgo' (T : Int → Int) (n k : Int) : Prop := (crs T n k).1 = 1 ∧ (crs T n k).2.1 < n ∧ chr T n (crs T n k).2.1 = 59
noncomputable def kS (T : Int → Int) (n : Int) : Int := fs (fun k => ¬ cgo' T n k) 21
section
variable {d : Nat} {M : ZM} {T : Int → Int} {n k : Int}
theorem cps_0 : cps T n 0 = 0 := rfl
theorem cps_s (h : 0 ≤ k) : cps T n (k + 1) = (crs T n k).2.1 + 1 := its_s h
theorem cps_rg (hn : 0 ≤ n) : ∀ m : Nat, (∀ j : Int, 0 ≤ j → j < m → cgo' T n j) → 3 * (m : Int) ≤ cps T n m ∧ cps T n m ≤ n
  | 0, _ => by
    rw [show ((0 : Nat) : Int) = 0 from rfl, cps_0]
    omega
  | m + 1, h => by
    obtain ⟨i1, i2⟩ := cps_rg hn m (fun j j0 j1 => h j j0 (by omega))
    obtain ⟨c1, c2, c3⟩ := h m (by omega) (by omega)
    have sp := cmd_sp (T := T) (n := n) (p := cps T n m) ⟨by omega, i2⟩
    have := (sp.2.2 c1).1
    rw [show ((m + 1 : Nat) : Int) = (m : Int) + 1 by omega, cps_s (by omega)]
    unfold crs at *
    omega
theorem cps_le (hn : 0 ≤ n) (h0 : 0 ≤ k) (h : ∀ j, 0 ≤ j → j < k → cgo' T n j) : 3 * k ≤ cps T n k ∧ cps T n k ≤ n := by
  have := cps_rg hn k.toNat (fun j j0 j1 => h j j0 (by omega))
  rw [Int.toNat_of_nonneg h0] at this
  exact this
theorem kS_sp (hn : 0 ≤ n ∧ n ≤ 60) : (0 ≤ kS T n ∧ kS T n ≤ 20) ∧ ¬ cgo' T n (kS T n) ∧ ∀ j, 0 ≤ j → j < kS T n → cgo' T n j := by
  rcases fs_sp (p := fun k => ¬ cgo' T n k) (n := 21) (by omega) with ⟨h1, h2⟩ | ⟨h1, h2, h3⟩
  · have := cps_le hn.1 (k := 21) (by omega) (fun j j0 j1 => Classical.not_not.1 (h2 j j0 j1))
    omega
  · exact ⟨by unfold kS; omega, h2, fun j j0 j1 => Classical.not_not.1 (h3 j j0 j1)⟩
theorem kS_at (hk : 0 ≤ k ∧ k ≤ 20) (h : ∀ j, 0 ≤ j → j < k → cgo' T n j) (no : ¬ cgo' T n k) : kS T n = k := fs_at (by omega) no (fun j j0 j1 z => z (h j j0 j1))
/-- a text is good -/
def okT (T : Int → Int) (n : Int) : Prop := (crs T n (kS T n)).1 = 1 ∧ (crs T n (kS T n)).2.1 = n
noncomputable def fpos (T : Int → Int) (n : Int) : Int := (crs T n (kS T n)).2.1
/-- the commands as the class keeps them -/
def kept (M : ZM) (T : Int → Int) (n k : Int) : Prop := ∀ j, 0 ≤ j → j < k → M 86 j = chr T n (cps T n j) ∧ M 87 j = cps T n j ∧ ∀ i, 0 ≤ i → i < nof (chr T n (cps T n j)) → M (89 + j.toNat) i = (crs T n j).2.2 i
/-- the same but for the script's cells -/
def fsc (M M' : ZM) : Prop := (∀ b, b < 84 ∨ b = 85 ∨ 108 < b → M' b = M b) ∧ ∀ f, f ≠ 4 → f ≠ 6 → M' 84 f = M 84 f
theorem fsc_c {i : Int} {M' M'' : ZM} (h : fsc M M') (k : fpc i M' M'') (hi : 0 ≤ i ∧ i < 20) : fsc M M'' := ⟨fun b hb => (k.1 b (by omega) (by omega) (by omega) (by omega)).trans (h.1 b hb), fun f p q => (k.2.1 f p).trans (h.2 f p q)⟩
theorem fsc_p {v : Int} {M' : ZM} (h : fsc M M') : fsc M (zwr M' 84 4 v) := ⟨fun b hb => by rw [zwr_n (by omega)]; exact h.1 b hb, fun f p q => by rw [zwr_nj p]; exact h.2 f p q⟩
theorem fsc_k {v : Int} {M' : ZM} (h : fsc M M') : fsc M (zwr M' 84 6 v) := ⟨fun b hb => by rw [zwr_n (by omega)]; exact h.1 b hb, fun f p q => by rw [zwr_nj q]; exact h.2 f p q⟩
theorem x_parse (hT : M 85 = T) (hn : M 84 5 = n) (hn2 : 0 ≤ n ∧ n ≤ 60) : ∃ M', E (d + 4) 88 [zR 84] M = Rt (some (zI (bI (okT T n)))) M' ∧ fsc M M' ∧ M' 84 4 = fpos T n ∧ (okT T n → kS T n ≤ 19 ∧ M' 84 6 = kS T n + 1 ∧ kept M' T n (kS T n + 1)) := by
  rw [en_88, q_88_0]
  -- at the head of round i: the commands before i stand, the last one ended before the text's end
  refine lpi (fun i (M1 : ZM) => Q (d + 3) 88 7 [zR 84, zI i] [] M1) (fun o => ∃ M', o = Rt (some (zI (bI (okT T n)))) M' ∧ fsc M M' ∧ M' 84 4 = fpos T n ∧ (okT T n → kS T n ≤ 19 ∧ M' 84 6 = kS T n + 1 ∧ kept M' T n (kS T n + 1))) 20 (fun i M1 => fsc M M1 ∧ kept M1 T n i ∧ (∀ j, 0 ≤ j → j < i - 1 → cgo' T n j) ∧ (i = 0 ∧ M1 84 4 = 0 ∨ 0 < i ∧ (crs T n (i - 1)).1 = 1 ∧ (crs T n (i - 1)).2.1 < n ∧ M1 84 4 = (crs T n (i - 1)).2.1)) ?_ ?_ 0 (zwr M 84 4 0) (by omega) ⟨fsc_p ⟨fun _ _ => rfl, fun _ _ _ => rfl⟩, fun j j0 j1 => absurd j1 (by omega), fun j j0 j1 => absurd j1 (by omega), Or.inl ⟨rfl, zwr_at⟩⟩
  · rintro i M1 i0 i1 ⟨F1, K1, C1, P1⟩
    have c85 : M1 85 = T := (F1.1 85 (by omega)).trans hT
    have c5 : M1 84 5 = n := (F1.2 5 (by decide) (by decide)).trans hn
    -- a command at its place
    have cmdAt : ∀ M2, fsc M M2 → kept M2 T n i → (∀ j, 0 ≤ j → j < i → cgo' T n j) → M2 84 4 = cps T n i → Q (d + 3) 88 7 [zR 84, zI i] [] M1 = Cb (E (d + 3) 89 [zR 84, zI i] M2) (fun v h => zrun (zevl (d + 3)) 88 33 [zR 84, zI i] (v.toList ++ []) h) → (∃ M', Q (d + 3) 88 7 [zR 84, zI i] [] M1 = Rt (some (zI (bI (okT T n)))) M' ∧ fsc M M' ∧ M' 84 4 = fpos T n ∧ (okT T n → kS T n ≤ 19 ∧ M' 84 6 = kS T n + 1 ∧ kept M' T n (kS T n + 1))) ∨ ∃ s', Q (d + 3) 88 7 [zR 84, zI i] [] M1 = Q (d + 3) 88 7 [zR 84, zI (i + 1)] [] s' ∧ fsc M s' ∧ kept s' T n (i + 1) ∧ (∀ j, 0 ≤ j → j < i + 1 - 1 → cgo' T n j) ∧ (i + 1 = 0 ∧ s' 84 4 = 0 ∨ 0 < i + 1 ∧ (crs T n (i + 1 - 1)).1 = 1 ∧ (crs T n (i + 1 - 1)).2.1 < n ∧ s' 84 4 = (crs T n (i + 1 - 1)).2.1) := by
      intro M2 F2 K2 C2 p2 go
      have le := cps_le hn2.1 i0 C2
      obtain ⟨M3, e3, F3, p3, v3⟩ := x_parseCommand (d := d) (M := M2) (T := T) (n := n) (p := cps T n i) ⟨i0, i1⟩ ((F2.1 85 (by omega)).trans hT) ((F2.2 5 (by decide) (by decide)).trans hn) hn2 p2 (by omega)
      have sp := cmd_sp (T := T) (n := n) (p := cps T n i) (by omega)
      have F3' := fsc_c F2 F3 ⟨i0, i1⟩
      have ec : cmd T n (cps T n i) = crs T n i := rfl
      rw [ec] at e3 p3 v3 sp
      rw [e3, Cb_I, q_88_33, p3, F3.2.1 5 (by decide), (F2.2 5 (by decide) (by decide)).trans hn] at go
      by_cases ok : (crs T n i).1 = 0
      · have ks : kS T n = i := kS_at (by omega) C2 (fun z => by have := z.1; omega)
        have nt : ¬ okT T n := fun z => by
          unfold okT at z
          rw [ks] at z
          omega
        rw [if_neg (fun z => z ok)] at go
        exact Or.inl ⟨M3, by rw [bI_f nt]; exact go, F3', by unfold fpos; rw [ks]; exact p3, fun z => absurd z nt⟩
      · have ok1 : (crs T n i).1 = 1 := sp.1.resolve_left ok
        have w := v3 ok1
        have K3 : kept M3 T n (i + 1) := by
          intro j j0 j1
          by_cases ej : j = i
          · rw [ej]
            exact ⟨w.1, w.2.1, w.2.2⟩
          · obtain ⟨a1, a2, a3⟩ := K2 j j0 (by omega)
            have o := F3.2.2 j ej
            refine ⟨o.1.trans a1, o.2.trans a2, fun q q0 q1 => ?_⟩
            rw [F3.1 (89 + j.toNat) (by omega) (by omega) (by omega) (by omega)]
            exact a3 q q0 q1
        rw [if_pos ok, zw_id (x := i + 1) (by omega)] at go
        by_cases en : (crs T n i).2.1 = n
        · have ks : kS T n = i := kS_at (by omega) C2 (fun z => by have := z.2.1; omega)
          have yt : okT T n := by
            unfold okT
            rw [ks]
            exact ⟨ok1, en⟩
          rw [if_neg (fun z => z en)] at go
          refine Or.inl ⟨_, by rw [bI_t yt]; exact go, fsc_k F3', ?_, fun _ => ⟨by omega, ?_, ?_⟩⟩
          · rw [zwr_nj (by decide), p3]
            unfold fpos
            rw [ks]
          · rw [zwr_at, ks]
          · rw [ks]
            intro j j0 j1
            obtain ⟨a1, a2, a3⟩ := K3 j j0 j1
            rw [zwr_n (by decide), zwr_n (by decide)]
            refine ⟨a1, a2, fun q q0 q1 => ?_⟩
            rw [zwr_ne (by omega)]
            exact a3 q q0 q1
        · rw [if_pos en] at go
          refine Or.inr ⟨M3, go, F3', K3, fun j j0 j1 => C2 j j0 (by omega), Or.inr ⟨by omega, ?_⟩⟩
          rw [show i + 1 - 1 = i by omega]
          exact ⟨ok1, by omega, p3⟩
    rcases P1 with ⟨z, p1⟩ | ⟨z, ok, en, p1⟩
    · subst z
      exact cmdAt M1 F1 K1 (fun j j0 j1 => absurd j1 (by omega)) p1 (by rw [q_88_7, if_neg (by omega), if_pos (by omega)])
    · have le := cps_le hn2.1 (k := i - 1) (by omega) C1
      have sp := cmd_sp (T := T) (n := n) (p := cps T n (i - 1)) (by omega)
      have ec : cmd T n (cps T n (i - 1)) = crs T n (i - 1) := rfl
      rw [ec] at sp
      have sks := x_skip (d := d + 1) (M := M1) (c := 59) (by rw [c5]; exact hn2) (by omega)
      rw [c85, c5, p1] at sks
      by_cases c59 : chr T n (crs T n (i - 1)).2.1 = 59
      · have C2 : ∀ j, 0 ≤ j → j < i → cgo' T n j := fun j j0 j1 => by
          by_cases ej : j = i - 1
          · rw [ej]; exact ⟨ok, en, c59⟩
          · exact C1 j j0 (by omega)
        have nx := cps_s (T := T) (n := n) (k := i - 1) (by omega)
        rw [show i - 1 + 1 = i by omega] at nx
        refine cmdAt (zwr M1 84 4 ((crs T n (i - 1)).2.1 + 1)) (fsc_p F1) ?_ C2 (by rw [zwr_at]; exact nx.symm) ?_
        · intro j j0 j1
          obtain ⟨a1, a2, a3⟩ := K1 j j0 j1
          rw [zwr_n (by decide), zwr_n (by decide)]
          refine ⟨a1, a2, fun q q0 q1 => ?_⟩
          rw [zwr_ne (by omega)]
          exact a3 q q0 q1
        · rw [q_88_7, if_neg (by omega), if_neg (by omega), sks, if_pos c59, Cb_I, q_88_23, if_pos (by decide)]
      · have ks : kS T n = i - 1 := kS_at (by omega) C1 (fun z => c59 z.2.2)
        have nt : ¬ okT T n := fun z => by
          unfold okT at z
          rw [ks] at z
          omega
        refine Or.inl ⟨M1, ?_, F1, by unfold fpos; rw [ks]; exact p1, fun z => absurd z nt⟩
        rw [q_88_7, if_neg (by omega), if_neg (by omega), sks, if_neg c59, Cb_I, q_88_23, if_neg (by decide), bI_f nt]
  · rintro M1 ⟨F1, K1, C1, P1⟩
    have c85 : M1 85 = T := (F1.1 85 (by omega)).trans hT
    have c5 : M1 84 5 = n := (F1.2 5 (by decide) (by decide)).trans hn
    obtain ⟨z, ok, en, p1⟩ := P1.resolve_left (fun z => by omega)
    have le := cps_le hn2.1 (k := 20 - 1) (by omega) C1
    have sp := cmd_sp (T := T) (n := n) (p := cps T n (20 - 1)) (by omega)
    have ec : cmd T n (cps T n (20 - 1)) = crs T n (20 - 1) := rfl
    rw [ec] at sp
    have e59 : (crs T n (20 - 1)).2.1 = 59 ∧ n = 60 := by
      have := (sp.2.2 ok).1
      omega
    have sks := x_skip (d := d + 1) (M := M1) (c := 59) (by rw [c5]; exact hn2) (by omega)
    rw [c85, c5, p1] at sks
    rw [q_88_7, if_pos (by decide), sks]
    by_cases c59 : chr T n (crs T n (20 - 1)).2.1 = 59
    · have C2 : ∀ j, 0 ≤ j → j < 20 → cgo' T n j := fun j j0 j1 => by
        by_cases ej : j = 20 - 1
        · rw [ej]; exact ⟨ok, en, c59⟩
        · exact C1 j j0 (by omega)
      have nx := cps_s (T := T) (n := n) (k := 20 - 1) (by omega)
      rw [show (20 : Int) - 1 + 1 = 20 by decide] at nx
      have c20 : crs T n 20 = (0, 60, fun _ => 0) := by
        unfold crs cmd
        rw [nx, e59.1, e59.2, chr_0 (by omega), if_pos nof_0]
        rfl
      have ks : kS T n = 20 := kS_at (by omega) C2 (fun z => by have := z.1; rw [c20] at this; exact absurd this (show ¬ (0 : Int) = 1 by decide))
      have nt : ¬ okT T n := fun z => by
        unfold okT at z
        rw [ks, c20] at z
        exact absurd z.1 (show ¬ (0 : Int) = 1 by decide)
      rw [if_pos c59, Cb_I, q_88_70, bI_f nt]
      refine ⟨_, rfl, fsc_p F1, ?_, fun z => absurd z nt⟩
      rw [zwr_at, e59.1]
      unfold fpos
      rw [ks, c20]
      rfl
    · have ks : kS T n = 20 - 1 := kS_at (by omega) C1 (fun z => c59 z.2.2)
      have nt : ¬ okT T n := fun z => by
        unfold okT at z
        rw [ks] at z
        omega
      rw [if_neg c59, Cb_I, q_88_70, bI_f nt]
      exact ⟨M1, rfl, F1, by unfold fpos; rw [ks]; exact p1, fun z => absurd z nt⟩
end
