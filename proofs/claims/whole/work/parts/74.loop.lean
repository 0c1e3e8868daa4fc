/-! the law: one command after another -/
theorem zret_lg {k : Nat} {i : Instr} {st : List ZV} {v : ZV} (t : zrty k = some .long) (e : zret k i st = some (some v)) : ∃ x, v = zL x := by
  rcases zret_rt e with ⟨x, rfl⟩ | ⟨-, k⟩
  · unfold zret at e
    rw [t] at e
    split at e
    · split at e
      · rw [if_neg (by rintro (q | q) <;> cases q <;> contradiction)] at e
        cases e
      · cases e
    · split at e
      · rw [if_pos rfl] at e
        cases e
      · cases e
    · split at e
      · cases e
      · cases e
    · cases e
  · exact k
theorem zrn_lg {cal : Nat → List ZV → ZH → ZO} {k : Nat} (t : zrty k = some .long) : ∀ (n pc : Nat) (ls st : List ZV) (h : ZH) (v : ZV) (h1 : ZH), zrn cal k n pc ls st h = some (some v, h1) → ∃ x, v = zL x
  | 0, _, _, _, _, _, _, e => by cases e
  | n + 1, pc, ls, st, h, v, h1, e => by
    have e : zgo cal k (zrn cal k n) pc ls st h = some (some v, h1) := e
    unfold zgo at e
    split at e
    · cases e
    · split at e
      · next hv =>
        cases e
        exact zret_lg t hv
      · split at e
        · split at e
          · obtain ⟨r, -, q⟩ := Option.bind_eq_some_iff.mp e
            exact zrn_lg t n _ _ _ _ _ _ q
          · cases e
        · obtain ⟨r, -, q⟩ := Option.bind_eq_some_iff.mp e
          exact zrn_lg t n _ _ _ _ _ _ q
section
variable {S : Int → Int} {i : Int} {M : ZM}
theorem lg_cmp_s (x : Int64) : (lg_cmp x x).toInt = 0 := by
  have h : ¬ (x < x) := Int64.lt_irrefl
  unfold lg_cmp
  simp [h]
theorem law_38 (u : uok 60 142 244 [] S M) (hr : RL S M) (hz : zinv (SH, M)) : ∃ M2, Q 60 255 1126 [zR zSC, zR 0, zR 138, zI i] [] M = Q 60 255 1166 [zR zSC, zR 0, zR 138, zI i] [] M2 ∧ RL S M2 ∧ zinv (SH, M2) := by
  obtain ⟨v, M1, M2, e1, e2, r2⟩ := u
  have ok0 : zoks [zR 0] := fun v hv => by rw [List.mem_singleton.mp hv]; trivial
  have ok1 : zoks [zR 138] := fun v hv => by rw [List.mem_singleton.mp hv]; trivial
  obtain ⟨-, z1, l1⟩ := zevl_keep 60 142 _ (SH, M) _ (SH, M1) ok0 hz e1
  obtain ⟨-, z2, l2⟩ := zevl_keep 60 244 _ (SH, M1) _ (SH, M2) ok1 z1 e2
  have lx : ∃ x, v = zL x := by
    obtain ⟨n, hn⟩ : ∃ n, zrn (zevl 59) 142 n 0 (zent (zmax 142) [zR 0]) [] (SH, M) = some (some v, (SH, M1)) := by
      have e1 : (if (([zR 0] : List ZV).flatMap (fun v => if zct v = 2 then [v, zU] else [v])).length ≤ zmax 142 then zrun (zevl 59) 142 0 (zent (zmax 142) [zR 0]) [] (SH, M) else none) = some (some v, (SH, M1)) := e1
      split at e1
      · exact zrun_some e1
      · cases e1
    exact zrn_lg t_142 n _ _ _ _ _ _ hn
  obtain ⟨x, rfl⟩ := lx
  refine ⟨M2, ?_, r2, z2⟩
  refine Eq.trans (s_aloadn f_255_1126 rfl) ?_
  refine Eq.trans (s_call [zR 0] [] f_255_1127 rfl c_255_169 rfl rfl (Nat.le_of_ble_eq_true rfl) (by show (zkn SH 0 == zown 142) = true; rw [show zkn SH 0 = 9 from kn_0]; rfl)) ?_
  rw [e1]
  show Q 60 255 1130 [zR zSC, zR 0, zR 138, zI i] [zL x] M1 = _
  refine Eq.trans (s_aloadn f_255_1130 rfl) ?_
  refine Eq.trans (s_call [zR 138] [zL x] f_255_1131 rfl c_255_173 rfl rfl (Nat.le_of_ble_eq_true rfl) (by show (zkn SH 138 == zown 244) = true; rw [show zkn SH 138 = 10 from kn_138]; rfl)) ?_
  rw [e2]
  show Q 60 255 1134 [zR zSC, zR 0, zR 138, zI i] [zL x, zL x] M2 = _
  refine Eq.trans (s_x (pc' := 1135) (st' := [zI (lg_cmp x x).toInt]) f_255_1134 rfl rfl rfl) ?_
  rw [lg_cmp_s, s_if (P := (0 : Int) = 0) 1166 f_255_1135 (by decide) rfl, if_pos rfl]
theorem law_sw {x : Int} (hA : uok 60 142 244 [] S M) (hr : RL S M) (hz : zinv (SH, M)) (hi : lwi S i) (hx : 0 ≤ x ∧ x ≤ 63) : ∃ M2, Q 60 255 32 [zR zSC, zR 0, zR 138, zI i] [zI x] M = Q 60 255 1166 [zR zSC, zR 0, zR 138, zI i] [] M2 ∧ RL S M2 ∧ zinv (SH, M2) := by
  by_cases hb : x < 0 ∨ 40 < x
  · exact ⟨M, s_x f_255_32 rfl rfl (by show (if x < 0 ∨ 40 < x then _ else _) = _; rw [if_pos hb]; rfl), hr, hz⟩
  · have go : ∀ (t : Nat), Q 60 255 32 [zR zSC, zR 0, zR 138, zI i] [zI x] M = Q 60 255 t [zR zSC, zR 0, zR 138, zI i] [] M → (∃ M2, Q 60 255 t [zR zSC, zR 0, zR 138, zI i] [] M = Q 60 255 1166 [zR zSC, zR 0, zR 138, zI i] [] M2 ∧ RL S M2 ∧ zinv (SH, M2)) → ∃ M2, Q 60 255 32 [zR zSC, zR 0, zR 138, zI i] [zI x] M = Q 60 255 1166 [zR zSC, zR 0, zR 138, zI i] [] M2 ∧ RL S M2 ∧ zinv (SH, M2) := fun t e ⟨M2, k⟩ => ⟨M2, e.trans k.1, k.2⟩
    have hc : x = 0 ∨ x = 1 ∨ x = 2 ∨ x = 3 ∨ x = 4 ∨ x = 5 ∨ x = 6 ∨ x = 7 ∨ x = 8 ∨ x = 9 ∨ x = 10 ∨ x = 11 ∨ x = 12 ∨ x = 13 ∨ x = 14 ∨ x = 15 ∨ x = 16 ∨ x = 17 ∨ x = 18 ∨ x = 19 ∨ x = 20 ∨ x = 21 ∨ x = 22 ∨ x = 23 ∨ x = 24 ∨ x = 25 ∨ x = 26 ∨ x = 27 ∨ x = 28 ∨ x = 29 ∨ x = 30 ∨ x = 31 ∨ x = 32 ∨ x = 33 ∨ x = 34 ∨ x = 35 ∨ x = 36 ∨ x = 37 ∨ x = 38 ∨ x = 39 ∨ x = 40 := by omega
    rcases hc with rfl | rfl | rfl | rfl | rfl | rfl | rfl | rfl | rfl | rfl | rfl | rfl | rfl | rfl | rfl | rfl | rfl | rfl | rfl | rfl | rfl | rfl | rfl | rfl | rfl | rfl | rfl | rfl | rfl | rfl | rfl | rfl | rfl | rfl | rfl | rfl | rfl | rfl | rfl | rfl | rfl
    · exact go 212 (s_x f_255_32 rfl rfl rfl) (law_0 hr hz hi)
    · exact go 265 (s_x f_255_32 rfl rfl rfl) (law_1 hr hz hi)
    · exact go 298 (s_x f_255_32 rfl rfl rfl) (law_2 hr hz hi)
    · exact go 331 (s_x f_255_32 rfl rfl rfl) (law_3 hr hz hi)
    · exact go 364 (s_x f_255_32 rfl rfl rfl) (law_4 hr hz hi)
    · exact go 387 (s_x f_255_32 rfl rfl rfl) (law_5 hr hz hi)
    · exact go 410 (s_x f_255_32 rfl rfl rfl) (law_6 hr hz hi)
    · exact go 433 (s_x f_255_32 rfl rfl rfl) (law_7 hr hz hi)
    · exact go 466 (s_x f_255_32 rfl rfl rfl) (law_8 hr hz hi)
    · exact go 479 (s_x f_255_32 rfl rfl rfl) (law_9 hr hz hi)
    · exact go 492 (s_x f_255_32 rfl rfl rfl) (law_10 hr hz hi)
    · exact go 515 (s_x f_255_32 rfl rfl rfl) (law_11 hr hz hi)
    · exact go 538 (s_x f_255_32 rfl rfl rfl) (law_12 hr hz hi)
    · exact go 551 (s_x f_255_32 rfl rfl rfl) (law_13 hr hz hi)
    · exact go 564 (s_x f_255_32 rfl rfl rfl) (law_14 hr hz hi)
    · exact go 577 (s_x f_255_32 rfl rfl rfl) (law_15 hr hz hi)
    · exact go 600 (s_x f_255_32 rfl rfl rfl) (law_16 hr hz hi)
    · exact go 633 (s_x f_255_32 rfl rfl rfl) (law_17 hr hz hi)
    · exact go 666 (s_x f_255_32 rfl rfl rfl) (law_18 hr hz hi)
    · exact go 699 (s_x f_255_32 rfl rfl rfl) (law_19 hr hz hi)
    · exact go 712 (s_x f_255_32 rfl rfl rfl) (law_20 hr hz hi)
    · exact go 745 (s_x f_255_32 rfl rfl rfl) (law_21 hr hz hi)
    · exact go 778 (s_x f_255_32 rfl rfl rfl) (law_22 hr hz hi)
    · exact go 831 (s_x f_255_32 rfl rfl rfl) (law_23 hr hz hi)
    · exact go 854 (s_x f_255_32 rfl rfl rfl) (law_24 hr hz hi)
    · exact go 877 (s_x f_255_32 rfl rfl rfl) (law_25 hr hz hi)
    · exact go 890 (s_x f_255_32 rfl rfl rfl) (law_26 hr hz hi)
    · exact go 913 (s_x f_255_32 rfl rfl rfl) (law_27 hr hz hi)
    · exact go 936 (s_x f_255_32 rfl rfl rfl) (law_28 hr hz hi)
    · exact go 949 (s_x f_255_32 rfl rfl rfl) (law_29 hr hz hi)
    · exact go 962 (s_x f_255_32 rfl rfl rfl) (law_30 hr hz hi)
    · exact go 985 (s_x f_255_32 rfl rfl rfl) (law_31 hr hz hi)
    · exact go 1008 (s_x f_255_32 rfl rfl rfl) (law_32 hr hz hi)
    · exact go 1031 (s_x f_255_32 rfl rfl rfl) (law_33 hr hz hi)
    · exact go 1064 (s_x f_255_32 rfl rfl rfl) (law_34 hr hz hi)
    · exact go 1077 (s_x f_255_32 rfl rfl rfl) (law_35 hr hz hi)
    · exact go 1100 (s_x f_255_32 rfl rfl rfl) (law_36 hr hz hi)
    · exact go 1113 (s_x f_255_32 rfl rfl rfl) (law_37 hr hz hi)
    · exact go 1126 (s_x f_255_32 rfl rfl rfl) (law_38 hA hr hz)
    · exact go 1140 (s_x f_255_32 rfl rfl rfl) (law_39 hr hz hi)
    · exact go 1153 (s_x f_255_32 rfl rfl rfl) (law_40 hr hz hi)
theorem law_run (hA : ∀ M, RL S M → uok 60 142 244 [] S M) (hL : 1 ≤ S (-1) ∧ S (-1) ≤ 3000) : ∀ (n : Nat) (i : Int) (M : ZM), 0 ≤ i → i ≤ 10000 → S (-1) - i ≤ n → RL S M → zinv (SH, M) → ∃ M', Q 60 255 18 [zR zSC, zR 0, zR 138, zI i] [] M = Rt (some (zI 1)) M' := by
  have head : ∀ (i : Int) (M : ZM), M zSC = S → Q 60 255 18 [zR zSC, zR 0, zR 138, zI i] [] M = if S (-1) - 6 < i then Q 60 255 1172 [zR zSC, zR 0, zR 138, zI i] [] M else Q 60 255 26 [zR zSC, zR 0, zR 138, zI i] [] M := by
    intro i M hs
    refine Eq.trans (s_iloadn f_255_18 rfl) ?_
    refine Eq.trans (s_aloadn f_255_19 rfl) ?_
    refine Eq.trans (s_slen f_255_20 (by rw [hs]; omega)) ?_
    refine Eq.trans (s_iconst f_255_21) ?_
    refine Eq.trans (s_isub f_255_22) ?_
    rw [hs, zw_id (by omega), show S (-1) - 1 - 5 = S (-1) - 6 by omega]
    exact s_icmp (P := S (-1) - 6 < i) 1172 f_255_23 (by decide) rfl
  have fin : ∀ (i : Int) (M : ZM), Q 60 255 1172 [zR zSC, zR 0, zR 138, zI i] [] M = Rt (some (zI 1)) M := by
    intro i M
    refine Eq.trans (s_iconst f_255_1172) ?_
    exact s_zret f_255_1173 t_255 (Or.inr rfl)
  intro n
  induction n with
  | zero =>
    intro i M i0 i1 hn hr hz
    exact ⟨M, by rw [head i M hr.1, if_pos (by omega), fin]⟩
  | succ n ih =>
    intro i M i0 i1 hn hr hz
    by_cases k : S (-1) - 6 < i
    · exact ⟨M, by rw [head i M hr.1, if_pos k, fin]⟩
    · have zl := zand_le (x := S i) (y := 63) (by decide)
      obtain ⟨M2, e, r2, z2⟩ := law_sw (i := i) (x := zand (S i) 63) (hA M hr) hr hz (by unfold lwi; omega) zl
      obtain ⟨M', e'⟩ := ih (i + 5) M2 (by omega) (by omega) (by omega) r2 z2
      refine ⟨M', ?_⟩
      rw [head i M hr.1, if_neg k]
      refine Eq.trans (s_aloadn f_255_26 rfl) ?_
      refine Eq.trans (s_iloadn f_255_27 rfl) ?_
      refine Eq.trans (s_sld f_255_28 (by rw [hr.1]; omega)) ?_
      refine Eq.trans (s_bipush f_255_29) ?_
      refine Eq.trans (s_iand f_255_31) ?_
      rw [hr.1]
      refine Eq.trans e ?_
      refine Eq.trans (s_iinc (x := i) (ls' := [zR zSC, zR 0, zR 138, zI (zw (i + 5))]) f_255_1166 rfl rfl) ?_
      refine Eq.trans (s_goto 18 f_255_1169 (by decide)) ?_
      rw [zw_id (by omega)]
      exact e'
theorem zpure_of (hA : ∀ (S : Int → Int) (M : ZM), RL S M → uok 60 142 244 [] S M) : zPure := by
  intro L xs hL
  obtain ⟨M, e, r, z⟩ := law_start L xs hL
  have sl : zM0 L xs zSC (-1) = (L : Int) + 1 := by
    unfold zM0
    rw [if_pos rfl, if_pos rfl]
  obtain ⟨M', e'⟩ := law_run (hA _) (by omega) (L + 1) 0 M (by decide) (by decide) (by omega) r z
  have e2 : zrun (zevl 60) 255 0 [zR zSC, zU, zU, zU] [] ([], zM0 L xs) = some (some (zI 1), (SH, M')) := e.trans e'
  obtain ⟨n, hn⟩ := zrun_some e2
  exact ⟨n, _, hn, by show SH.length ≤ 600000; rw [SH_len]; decide, SH_tot⟩
end
