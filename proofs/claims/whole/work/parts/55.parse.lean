/-! commands in a text: what both take them for; the class's parse -/
def chr (T : Int → Int) (n i : Int) : Int := if 0 ≤ i ∧ i < n then T i else 0
def nof (c : Int) : Int := if c = 114 then 4 else if c = 99 ∨ c = 108 ∨ c = 107 then 2 else if c = 101 then 1 else 0
def sk (i p : Int) : Int := if 0 < i then p + 1 else p
def nuS (T : Int → Int) (n q : Int) : Int × Int × Int := if 48 ≤ chr T n q ∧ chr T n q ≤ 57 then (if 48 ≤ chr T n (q + 1) ∧ chr T n (q + 1) ≤ 57 then (1, q + 2, 10 * (chr T n q - 48) + chr T n (q + 1) - 48) else (1, q + 1, chr T n q - 48)) else (0, q, 0)
def agS (T : Int → Int) (n i : Int) (s : Int × Int × (Int → Int)) : Int × Int × (Int → Int) := if s.1 = 0 then s else if 0 < i ∧ chr T n s.2.1 ≠ 44 then (0, s.2.1, s.2.2) else ((nuS T n (sk i s.2.1)).1, (nuS T n (sk i s.2.1)).2.1, up1 s.2.2 i (nuS T n (sk i s.2.1)).2.2)
def agN (T : Int → Int) (n p t : Int) : Int × Int × (Int → Int) := its (agS T n) (1, p + 1, fun _ => 0) t
def cmd (T : Int → Int) (n p : Int) : Int × Int × (Int → Int) := if nof (chr T n p) = 0 then (0, p, fun _ => 0) else agN T n p (nof (chr T n p))
section
variable {T : Int → Int} {n p q t : Int}
theorem nof_rg (c : Int) : 0 ≤ nof c ∧ nof c ≤ 4 := by
  unfold nof
  split
  · omega
  · split
    · omega
    · split <;> omega
theorem chr_0 (h : n ≤ q) : chr T n q = 0 := if_neg (by omega)
theorem chr_n (h : chr T n q ≠ 0) : 0 ≤ q ∧ q < n := by
  unfold chr at h
  by_cases k : 0 ≤ q ∧ q < n
  · exact k
  · rw [if_neg k] at h
    exact absurd rfl h
theorem chr_cg {U : Int → Int} (h : ∀ i, 0 ≤ i → i < n → U i = T i) : chr U n q = chr T n q := by
  unfold chr
  by_cases k : 0 ≤ q ∧ q < n
  · rw [if_pos k, if_pos k, h q k.1 k.2]
  · rw [if_neg k, if_neg k]
theorem chr_f {U : Int → Int} (h : ∀ i, 0 ≤ i → i < n → U i = T i) : chr U n = chr T n := funext fun q => chr_cg h
theorem cmd_cg {U : Int → Int} (h : ∀ i, 0 ≤ i → i < n → U i = T i) : cmd U n p = cmd T n p := by
  have e := chr_f h
  unfold cmd agN agS nuS
  rw [e]
theorem nof_0 : nof 0 = 0 := by decide
theorem nof_p (h : nof (chr T n p) ≠ 0) : 0 ≤ p ∧ p < n := chr_n (fun e => h (by rw [e]; exact nof_0))
theorem nu_sp (hq : 0 ≤ q ∧ q ≤ n) : ((nuS T n q).1 = 0 ∧ (nuS T n q).2.1 = q) ∨ ((nuS T n q).1 = 1 ∧ (q + 1 ≤ (nuS T n q).2.1 ∧ (nuS T n q).2.1 ≤ n) ∧ 0 ≤ (nuS T n q).2.2 ∧ (nuS T n q).2.2 ≤ 99) := by
  unfold nuS
  by_cases k : 48 ≤ chr T n q ∧ chr T n q ≤ 57
  · have k1 := chr_n (T := T) (n := n) (q := q) (by omega)
    rw [if_pos k]
    by_cases l : 48 ≤ chr T n (q + 1) ∧ chr T n (q + 1) ≤ 57
    · have l1 := chr_n (T := T) (n := n) (q := q + 1) (by omega)
      rw [if_pos l]
      exact Or.inr ⟨rfl, by dsimp only; omega, by dsimp only; omega⟩
    · rw [if_neg l]
      exact Or.inr ⟨rfl, by dsimp only; omega, by dsimp only; omega⟩
  · rw [if_neg k]
    exact Or.inl ⟨rfl, rfl⟩
theorem ag_s (h : 0 ≤ t) : agN T n p (t + 1) = agS T n t (agN T n p t) := its_s h
theorem ag_sp (hp : 0 ≤ p ∧ p < n) : ∀ t : Nat, ((agN T n p t).1 = 0 ∨ (agN T n p t).1 = 1) ∧ (p ≤ (agN T n p t).2.1 ∧ (agN T n p t).2.1 ≤ n) ∧ ((agN T n p t).1 = 1 → p + 1 + t ≤ (agN T n p t).2.1)
  | 0 => ⟨Or.inr rfl, by show p ≤ p + 1 ∧ p + 1 ≤ n; omega, fun _ => by show p + 1 + ((0 : Nat) : Int) ≤ p + 1; omega⟩
  | t + 1 => by
    obtain ⟨h1, h2, h3⟩ := ag_sp hp t
    rw [show ((t + 1 : Nat) : Int) = (t : Int) + 1 by omega, ag_s (by omega)]
    generalize agN T n p t = s at *
    unfold agS
    by_cases k : s.1 = 0
    · rw [if_pos k]
      exact ⟨h1, h2, fun z => by omega⟩
    · rw [if_neg k]
      have h3 := h3 (h1.resolve_left k)
      by_cases l : 0 < (t : Int) ∧ chr T n s.2.1 ≠ 44
      · rw [if_pos l]
        exact ⟨Or.inl rfl, h2, fun z => absurd z (show ¬ (0 : Int) = 1 by decide)⟩
      · rw [if_neg l]
        have sq : s.2.1 ≤ sk t s.2.1 ∧ sk t s.2.1 ≤ n := by
          unfold sk
          by_cases m : 0 < (t : Int)
          · have := chr_n (T := T) (n := n) (q := s.2.1) (fun e => l ⟨m, by omega⟩)
            rw [if_pos m]
            omega
          · rw [if_neg m]
            omega
        have u := nu_sp (T := T) (n := n) (q := sk t s.2.1) (by omega)
        dsimp only
        refine ⟨?_, ?_, fun z => ?_⟩ <;> omega
theorem ag_st (h0 : 0 ≤ t) (h : (agN T n p t).1 = 0) : ∀ k : Nat, agN T n p (t + k) = agN T n p t
  | 0 => by rw [show t + ((0 : Nat) : Int) = t by omega]
  | k + 1 => by
    rw [show t + ((k + 1 : Nat) : Int) = t + k + 1 by omega, ag_s (by omega), ag_st h0 h k]
    exact if_pos h
theorem cmd_sp (hp : 0 ≤ p ∧ p ≤ n) : ((cmd T n p).1 = 0 ∨ (cmd T n p).1 = 1) ∧ (p ≤ (cmd T n p).2.1 ∧ (cmd T n p).2.1 ≤ n) ∧ ((cmd T n p).1 = 1 → p + 2 ≤ (cmd T n p).2.1 ∧ nof (chr T n p) ≠ 0) := by
  unfold cmd
  by_cases k : nof (chr T n p) = 0
  · rw [if_pos k]
    exact ⟨Or.inl rfl, by dsimp only; omega, fun z => absurd z (show ¬ (0 : Int) = 1 by decide)⟩
  · rw [if_neg k]
    have r := nof_rg (chr T n p)
    have a := ag_sp (T := T) (nof_p k) (nof (chr T n p)).toNat
    rw [Int.toNat_of_nonneg r.1] at a
    exact ⟨a.1, a.2.1, fun z => ⟨by have := a.2.2 z; omega, k⟩⟩
end
theorem zwr_tw {M : ZM} {a : Nat} {i v w : Int} : zwr (zwr M a i v) a i w = zwr M a i w := by
  funext b j
  unfold zwr
  by_cases h : b = a ∧ j = i
  · rw [if_pos h, if_pos h]
  · rw [if_neg h, if_neg h, if_neg h]
theorem nrow_fin : ∀ i : Fin 20, zkn SH (89 + (i : Nat)) = 20 ∧ zln SH (89 + (i : Nat)) = 4 := by decide +kernel
theorem nrow {i : Int} (h : 0 ≤ i ∧ i < 20) : zkn SH (89 + i.toNat) = 20 ∧ zln SH (89 + i.toNat) = 4 := nrow_fin ⟨i.toNat, by omega⟩
section
variable {d : Nat} {M : ZM} {T : Int → Int} {n p : Int}
theorem x_signAt (i : Int) (hn : 0 ≤ M 84 5 ∧ M 84 5 ≤ 60) : E (d + 1) 93 [zR 84, zI i] M = Rt (some (zI (chr (M 85) (M 84 5) i))) M := by
  rw [en_93, q_93_0]
  unfold chr
  by_cases h1 : i < 0
  · rw [if_pos h1, if_neg (by omega)]
  · rw [if_neg h1]
    by_cases h2 : M 84 5 ≤ i
    · rw [if_pos h2, if_neg (by omega)]
    · rw [if_neg h2, if_pos (by omega), if_pos (by omega)]
theorem x_skip {c : Int} (hn : 0 ≤ M 84 5 ∧ M 84 5 ≤ 60) (hp : 0 ≤ M 84 4 ∧ M 84 4 ≤ 60) : E (d + 2) 92 [zR 84, zI c] M = if chr (M 85) (M 84 5) (M 84 4) = c then Rt (some (zI 1)) (zwr M 84 4 (M 84 4 + 1)) else Rt (some (zI 0)) M := by
  rw [en_92, q_92_0, x_signAt _ hn, Cb_I, q_92_8, zw_id (by omega)]
theorem x_digit (c : Int) : E (d + 1) 94 [zI c] M = Rt (some (zI (bI (48 ≤ c ∧ c ≤ 57)))) M := by
  rw [en_94, q_94_0]
  by_cases h1 : c < 48
  · rw [if_pos h1, bI_f (by omega)]
  · rw [if_neg h1]
    by_cases h2 : 57 < c
    · rw [if_pos h2, bI_f (by omega)]
    · rw [if_neg h2, bI_t (by omega)]
theorem x_number {q : Int} (hT : M 85 = T) (hn : M 84 5 = n) (hn2 : 0 ≤ n ∧ n ≤ 60) (hq : M 84 4 = q) (hq2 : 0 ≤ q ∧ q ≤ 60) (hd : (nuS T n q).1 = 1) : E (d + 2) 91 [zR 84] M = Rt (some (zI (nuS T n q).2.2)) (zwr M 84 4 (nuS T n q).2.1) := by
  have dg : 48 ≤ chr T n q ∧ chr T n q ≤ 57 := by
    refine Classical.byContradiction fun z => ?_
    unfold nuS at hd
    rw [if_neg z] at hd
    exact absurd hd (show ¬ (0 : Int) = 1 by decide)
  rw [en_91, q_91_0, hq, x_signAt _ (by omega), Cb_I, q_91_8, hq, hn, hT, zw_id (x := q + 1) (by omega), zwr_at, x_signAt _ (by rw [zwr_nj (by decide), hn]; exact hn2), zwr_nj (show (5 : Int) ≠ 4 by decide), zwr_n (show (85 : Nat) ≠ 84 by decide), hn, hT, Cb_I, q_91_30, x_digit, Cb_I, q_91_33]
  unfold nuS
  rw [if_pos dg]
  by_cases l : 48 ≤ chr T n (q + 1) ∧ chr T n (q + 1) ≤ 57
  · rw [if_neg (bI_n0.2 l), zwr_at, x_signAt _ (by rw [zwr_nj (by decide), hn]; exact hn2), zwr_nj (show (5 : Int) ≠ 4 by decide), zwr_n (show (85 : Nat) ≠ 84 by decide), hn, hT, Cb_I, q_91_48, zwr_at, zwr_tw, if_pos l]
    dsimp only
    rw [zw_id (x := chr T n q - 48) (by omega), zw_id (x := 10 * (chr T n q - 48)) (by omega), zw_id (x := 10 * (chr T n q - 48) + chr T n (q + 1)) (by omega), zw_id (by omega), zw_id (x := q + 1 + 1) (by omega), show q + 1 + 1 = q + 2 by omega]
  · rw [if_pos (bI_0.2 l), if_neg l, zw_id (by omega)]
/-- the same but for a command's cells -/
def fpc (i : Int) (M M' : ZM) : Prop := (∀ b, b ≠ 84 → b ≠ 86 → b ≠ 87 → b ≠ 89 + i.toNat → M' b = M b) ∧ (∀ f, f ≠ 4 → M' 84 f = M 84 f) ∧ (∀ j, j ≠ i → M' 86 j = M 86 j ∧ M' 87 j = M 87 j)
theorem fpc_r {i : Int} : fpc i M M := ⟨fun _ _ _ _ _ => rfl, fun _ _ => rfl, fun _ _ => ⟨rfl, rfl⟩⟩
theorem fpc_p {i v : Int} {M' : ZM} (h : fpc i M M') : fpc i M (zwr M' 84 4 v) := ⟨fun b b1 b2 b3 b4 => (zwr_n b1).trans (h.1 b b1 b2 b3 b4), fun f hf => by rw [zwr_nj hf]; exact h.2.1 f hf, fun j hj => by rw [zwr_n (by decide), zwr_n (by decide)]; exact h.2.2 j hj⟩
theorem fpc_w {i j v : Int} {M' : ZM} (h : fpc i M M') : fpc i M (zwr M' (89 + i.toNat) j v) := ⟨fun b b1 b2 b3 b4 => (zwr_n b4).trans (h.1 b b1 b2 b3 b4), fun f hf => by rw [zwr_ne (by omega)]; exact h.2.1 f hf, fun k hk => by rw [zwr_n (by omega), zwr_n (by omega)]; exact h.2.2 k hk⟩
theorem fpc_k {i v w : Int} : fpc i M (zwr (zwr M 86 i v) 87 i w) := ⟨fun b b1 b2 b3 b4 => by rw [zwr_n b3, zwr_n b2], fun f hf => by rw [zwr_ne (by decide), zwr_ne (by decide)], fun j hj => by
  rw [zwr_ne (by decide), zwr_nj hj, zwr_nj hj, zwr_ne (by decide)]
  exact ⟨rfl, rfl⟩⟩
theorem x_parseCommand {i : Int} (hi : 0 ≤ i ∧ i < 20) (hT : M 85 = T) (hn : M 84 5 = n) (hn2 : 0 ≤ n ∧ n ≤ 60) (hp : M 84 4 = p) (hp2 : 0 ≤ p ∧ p ≤ n) : ∃ M', E (d + 3) 89 [zR 84, zI i] M = Rt (some (zI (cmd T n p).1)) M' ∧ fpc i M M' ∧ M' 84 4 = (cmd T n p).2.1 ∧ ((cmd T n p).1 = 1 → M' 86 i = chr T n p ∧ M' 87 i = p ∧ ∀ j, 0 ≤ j → j < nof (chr T n p) → M' (89 + i.toNat) j = (cmd T n p).2.2 j) := by
  have kind : E (d + 2) 90 [zI (chr T n p)] M = Rt (some (zI (nof (chr T n p)))) M := by
    rw [en_90, q_90_0]
    unfold nof
    generalize chr T n p = c
    by_cases h1 : c = 99
    · rw [if_pos h1, if_neg (by omega), if_pos (by omega)]
    · rw [if_neg h1]
      by_cases h2 : c = 101
      · rw [if_pos h2, if_neg (by omega), if_neg (by omega), if_pos h2]
      · rw [if_neg h2]
        by_cases h3 : c = 107
        · rw [if_pos h3, if_neg (by omega), if_pos (by omega)]
        · rw [if_neg h3]
          by_cases h4 : c = 108
          · rw [if_pos h4, if_neg (by omega), if_pos (by omega)]
          · rw [if_neg h4]
            by_cases h5 : c = 114
            · rw [if_pos h5, if_pos h5]
            · rw [if_neg h5, if_neg h5, if_neg (by omega), if_neg h2]
  have nr := nof_rg (chr T n p)
  rw [en_89, q_89_0, hp, x_signAt _ (by omega), Cb_I, q_89_8, hT, hn, kind, Cb_I, q_89_13]
  by_cases k : nof (chr T n p) = 0
  · have e : cmd T n p = (0, p, fun _ => 0) := if_pos k
    rw [if_neg (fun q => q k), e]
    exact ⟨M, rfl, fpc_r, hp, fun z => absurd z (show ¬ (0 : Int) = 1 by decide)⟩
  · have e : cmd T n p = agN T n p (nof (chr T n p)) := if_neg k
    have pn := nof_p k
    have m1 : (zwr M 86 i (chr T n p)) 84 4 = p := by rw [zwr_ne (by decide)]; exact hp
    have m2 : (zwr (zwr M 86 i (chr T n p)) 87 i p) 84 4 = p := by rw [zwr_ne (by decide)]; exact m1
    rw [if_pos k, if_pos hi, if_pos hi, m1, m2, zw_id (x := p + 1) (by omega), e]
    generalize hM0 : zwr (zwr (zwr M 86 i (chr T n p)) 87 i p) 84 4 (p + 1) = M0
    have F0 : fpc i M M0 := by rw [← hM0]; exact fpc_p fpc_k
    have k0 : M0 86 i = chr T n p ∧ M0 87 i = p := by
      rw [← hM0, zwr_ne (by decide), zwr_ne (by decide), zwr_at, zwr_ne (by decide), zwr_at]
      exact ⟨rfl, rfl⟩
    refine lpi (fun t (M1 : ZM) => Q (d + 2) 89 50 [zR 84, zI i, zI (chr T n p), zI (nof (chr T n p)), zI t] [] M1) (fun o => ∃ M', o = Rt (some (zI (agN T n p (nof (chr T n p))).1)) M' ∧ fpc i M M' ∧ M' 84 4 = (agN T n p (nof (chr T n p))).2.1 ∧ ((agN T n p (nof (chr T n p))).1 = 1 → M' 86 i = chr T n p ∧ M' 87 i = p ∧ ∀ j, 0 ≤ j → j < nof (chr T n p) → M' (89 + i.toNat) j = (agN T n p (nof (chr T n p))).2.2 j)) (nof (chr T n p)) (fun t M1 => fpc i M M1 ∧ (M1 86 i = chr T n p ∧ M1 87 i = p) ∧ (agN T n p t).1 = 1 ∧ M1 84 4 = (agN T n p t).2.1 ∧ ∀ j, 0 ≤ j → j < t → M1 (89 + i.toNat) j = (agN T n p t).2.2 j) ?_ ?_ 0 M0 (by omega) ⟨F0, k0, rfl, by rw [← hM0]; exact zwr_at, fun j j0 j1 => absurd j1 (by omega)⟩
    · rintro t M1 t0 t1 ⟨F1, k1, ok, pos, nums⟩
      have sp := ag_sp (T := T) pn t.toNat
      rw [Int.toNat_of_nonneg t0] at sp
      have sx := ag_sp (T := T) pn (t + 1).toNat
      rw [Int.toNat_of_nonneg (by omega)] at sx
      have c85 : M1 85 = T := (F1.1 85 (by omega) (by omega) (by omega) (by omega)).trans hT
      have c5 : M1 84 5 = n := (F1.2.1 5 (by decide)).trans hn
      have nx := ag_s (T := T) (n := n) (p := p) t0
      generalize hs : agN T n p t = s at *
      have fail : agS T n t s = (0, (agS T n t s).2.1, (agS T n t s).2.2) → ∀ M2, Q (d + 2) 89 50 [zR 84, zI i, zI (chr T n p), zI (nof (chr T n p)), zI t] [] M1 = Rt (some (zI 0)) M2 → fpc i M M2 → M2 84 4 = (agS T n t s).2.1 → (∃ M', Q (d + 2) 89 50 [zR 84, zI i, zI (chr T n p), zI (nof (chr T n p)), zI t] [] M1 = Rt (some (zI (agN T n p (nof (chr T n p))).1)) M' ∧ fpc i M M' ∧ M' 84 4 = (agN T n p (nof (chr T n p))).2.1 ∧ ((agN T n p (nof (chr T n p))).1 = 1 → M' 86 i = chr T n p ∧ M' 87 i = p ∧ ∀ j, 0 ≤ j → j < nof (chr T n p) → M' (89 + i.toNat) j = (agN T n p (nof (chr T n p))).2.2 j)) := by
        intro z M2 e2 F2 p2
        have st := ag_st (T := T) (n := n) (p := p) (t := t + 1) (by omega) (by rw [nx, z]) (nof (chr T n p) - (t + 1)).toNat
        rw [show t + 1 + ((nof (chr T n p) - (t + 1)).toNat : Int) = nof (chr T n p) by omega] at st
        rw [st, nx]
        have z1 : (agS T n t s).1 = 0 := by rw [z]
        refine ⟨M2, by rw [z1]; exact e2, F2, p2, fun w => by omega⟩
      -- a number at a place
      have atq : ∀ (q : Int) (M2 : ZM), q = sk t s.2.1 → ¬ (0 < t ∧ chr T n s.2.1 ≠ 44) → fpc i M M2 → (M2 86 i = chr T n p ∧ M2 87 i = p) → M2 84 4 = q → (∀ j, 0 ≤ j → j < t → M2 (89 + i.toNat) j = s.2.2 j) → Q (d + 2) 89 50 [zR 84, zI i, zI (chr T n p), zI (nof (chr T n p)), zI t] [] M1 = Q (d + 2) 89 80 [zR 84, zI i, zI (chr T n p), zI (nof (chr T n p)), zI t] [zI (chr T n q)] M2 → (∃ M', Q (d + 2) 89 50 [zR 84, zI i, zI (chr T n p), zI (nof (chr T n p)), zI t] [] M1 = Rt (some (zI (agN T n p (nof (chr T n p))).1)) M' ∧ fpc i M M' ∧ M' 84 4 = (agN T n p (nof (chr T n p))).2.1 ∧ ((agN T n p (nof (chr T n p))).1 = 1 → M' 86 i = chr T n p ∧ M' 87 i = p ∧ ∀ j, 0 ≤ j → j < nof (chr T n p) → M' (89 + i.toNat) j = (agN T n p (nof (chr T n p))).2.2 j)) ∨ ∃ s', Q (d + 2) 89 50 [zR 84, zI i, zI (chr T n p), zI (nof (chr T n p)), zI t] [] M1 = Q (d + 2) 89 50 [zR 84, zI i, zI (chr T n p), zI (nof (chr T n p)), zI (t + 1)] [] s' ∧ fpc i M s' ∧ (s' 86 i = chr T n p ∧ s' 87 i = p) ∧ (agN T n p (t + 1)).1 = 1 ∧ s' 84 4 = (agN T n p (t + 1)).2.1 ∧ ∀ j, 0 ≤ j → j < t + 1 → s' (89 + i.toNat) j = (agN T n p (t + 1)).2.2 j := by
        intro q M2 hq hno F2 k2 p2 n2 go
        have c85' : M2 85 = T := (F2.1 85 (by omega) (by omega) (by omega) (by omega)).trans hT
        have c5' : M2 84 5 = n := (F2.2.1 5 (by decide)).trans hn
        have va : agS T n t s = ((nuS T n q).1, (nuS T n q).2.1, up1 s.2.2 t (nuS T n q).2.2) := by
          unfold agS
          rw [if_neg (by omega), if_neg hno, hq]
        have qn : 0 ≤ q ∧ q ≤ n := by
          rw [hq]
          unfold sk
          by_cases m : 0 < t
          · have := chr_n (T := T) (n := n) (q := s.2.1) (fun e => hno ⟨m, by omega⟩)
            rw [if_pos m]
            omega
          · rw [if_neg m]
            omega
        rw [q_89_80, x_digit, Cb_I, q_89_83] at go
        by_cases dg : 48 ≤ chr T n q ∧ chr T n q ≤ 57
        · have d1 : (nuS T n q).1 = 1 := by
            unfold nuS
            rw [if_pos dg]
            split <;> rfl
          have row := nrow hi
          rw [if_pos (bI_n0.2 dg), if_pos hi, x_number c85' c5' hn2 p2 (by omega) d1, Cb_I, q_89_100 row.1 row.2, if_pos (by omega), zw_id (x := t + 1) (by omega)] at go
          refine Or.inr ⟨_, go, fpc_w (fpc_p F2), ?_, by rw [nx, va]; exact d1, ?_, fun j j0 j1 => ?_⟩
          · rw [zwr_ne (by omega), zwr_ne (by omega), zwr_ne (by omega), zwr_ne (by omega)]
            exact k2
          · rw [zwr_ne (by omega), zwr_at, nx, va]
          · rw [nx, va]
            dsimp only
            by_cases ej : j = t
            · rw [ej, zwr_at, up1_s]
            · rw [zwr_nj ej, zwr_ne (by omega), up1_n ej]
              exact n2 j j0 (by omega)
        · have d0 : (nuS T n q).1 = 0 ∧ (nuS T n q).2.1 = q := by
            unfold nuS
            rw [if_neg dg]
            exact ⟨rfl, rfl⟩
          rw [if_neg (fun z => z (bI_0.2 dg))] at go
          exact Or.inl (fail (by rw [va, d0.1]) M2 go F2 (by rw [va, p2]; exact d0.2.symm))
      by_cases m : 0 < t
      · have sks : E (d + 2) 92 [zR 84, zI 44] M1 = if chr T n s.2.1 = 44 then Rt (some (zI 1)) (zwr M1 84 4 (s.2.1 + 1)) else Rt (some (zI 0)) M1 := by
          have := x_skip (d := d) (M := M1) (c := 44) (by rw [c5]; exact hn2) (by omega)
          rw [c85, c5, pos] at this
          exact this
        by_cases c44 : chr T n s.2.1 = 44
        · have go : Q (d + 2) 89 50 [zR 84, zI i, zI (chr T n p), zI (nof (chr T n p)), zI t] [] M1 = Q (d + 2) 89 80 [zR 84, zI i, zI (chr T n p), zI (nof (chr T n p)), zI t] [zI (chr T n (s.2.1 + 1))] (zwr M1 84 4 (s.2.1 + 1)) := by
            have sg := x_signAt (d := d + 1) (M := zwr M1 84 4 (s.2.1 + 1)) (s.2.1 + 1) (by rw [zwr_nj (by decide), c5]; exact hn2)
            rw [zwr_nj (show (5 : Int) ≠ 4 by decide), zwr_n (show (85 : Nat) ≠ 84 by decide), c5, c85] at sg
            rw [q_89_50, if_neg (by omega), if_neg (by omega), sks, if_pos c44, Cb_I, q_89_67, if_pos (by decide), zwr_at, sg, Cb_I]
          refine atq (s.2.1 + 1) (zwr M1 84 4 (s.2.1 + 1)) (by unfold sk; rw [if_pos m]) (fun z => z.2 c44) (fpc_p F1) ?_ zwr_at (fun j j0 j1 => by rw [zwr_ne (by omega)]; exact nums j j0 j1) go
          rw [zwr_ne (by decide), zwr_ne (by decide)]
          exact k1
        · refine Or.inl (fail ?_ M1 ?_ F1 ?_)
          · unfold agS
            rw [if_neg (by omega), if_pos ⟨m, c44⟩]
          · rw [q_89_50, if_neg (by omega), if_neg (by omega), sks, if_neg c44, Cb_I, q_89_67, if_neg (by decide)]
          · unfold agS
            rw [if_neg (by omega), if_pos ⟨m, c44⟩, pos]
      · have go : Q (d + 2) 89 50 [zR 84, zI i, zI (chr T n p), zI (nof (chr T n p)), zI t] [] M1 = Q (d + 2) 89 80 [zR 84, zI i, zI (chr T n p), zI (nof (chr T n p)), zI t] [zI (chr T n s.2.1)] M1 := by
          rw [q_89_50, if_neg (by omega), if_pos (by omega), x_signAt _ (by rw [c5]; exact hn2), Cb_I, c5, c85, pos]
        exact atq s.2.1 M1 (by unfold sk; rw [if_neg m]) (fun z => m z.1) F1 k1 pos nums go
    · rintro M1 ⟨F1, k1, ok, pos, nums⟩
      exact ⟨M1, by rw [q_89_50, if_pos (Int.le_refl _), ok], F1, pos, fun _ => ⟨k1.1, k1.2, nums⟩⟩
end
