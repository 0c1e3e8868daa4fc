/-! references out of rows of references; answers that are booleans -/
theorem s_zretg {d k pc n : Nat} {ls : List ZV} {M : ZM} {x : Int} (hf : zft k pc = some (n, .ireturn)) (ht : zrty k = some .boolean) : Q d k pc ls [zI x] M = if x = 0 ∨ x = 1 then Rt (some (zI x)) M else none := by
  by_cases h : x = 0 ∨ x = 1
  · rw [if_pos h]; exact s_zret hf ht h
  · rw [if_neg h]
    unfold Q
    rw [zrun_eq]
    unfold zgo
    rw [hf]
    dsimp only
    have e : zret k .ireturn [zI x] = none := by
      unfold zret
      dsimp only
      rw [if_neg]
      rw [ht]
      rintro (q | q)
      · cases q
      · exact h q.2
    rw [e]
    rfl
theorem s_bastc {d k pc n : Nat} {ls st : List ZV} {M : ZM} {i v : Int} {a : Nat} {w : Nat} (hf : zft k pc = some (n, .bastore)) (hk : zkn SH a = 22) (hw : zln SH a = w) (hv : v = 0 ∨ v = 1) : Q d k pc ls (zI v :: zI i :: zR a :: st) M = if 0 ≤ i ∧ i < (w : Int) then Q d k (pc + n) ls st (zwr M a i v) else none := by
  rw [s_bast hf hk hw]
  by_cases h : 0 ≤ i ∧ i < (w : Int)
  · rw [if_pos h, if_pos ⟨h, hv⟩]
  · rw [if_neg h, if_neg (fun q => h q.1)]
theorem bef_dg {i : Int} (h : 0 ≤ i ∧ i < 7) : zDn (21 + 9 * i.toNat) := Or.inr (Or.inr ⟨i.toNat, by omega, rfl⟩)
theorem num_kn {i : Int} (h : 0 ≤ i ∧ i < 20) : zkn SH (89 + i.toNat) = 20 := by
  have : ∀ j, j < 20 → zkn SH (89 + j) = 20 := by decide +kernel
  exact this _ (by omega)
theorem num_ln {i : Int} (h : 0 ≤ i ∧ i < 20) : zln SH (89 + i.toNat) = 4 := by
  have : ∀ j, j < 20 → zln SH (89 + j) = 4 := by decide +kernel
  exact this _ (by omega)
theorem s_aald20 {d k pc n : Nat} {ls st : List ZV} {M : ZM} {i : Int} (hf : zft k pc = some (n, .aaload)) : Q d k pc ls (zI i :: zR 20 :: st) M = if 0 ≤ i ∧ i < 7 then Q d k (pc + n) ls (zR (21 + 9 * i.toNat) :: st) M else none := by
  have hl : zln SH 20 = 7 := ln_20
  by_cases h : 0 ≤ i ∧ i < 7
  · rw [if_pos h]
    have hr : ∀ j, j < 7 → zrf SH 20 j = (21 + 9 * j) + 1 := by decide +kernel
    exact s_aald hf (Or.inl kn_20) _ (by rw [hl]; exact h) (hr _ (by omega))
  · rw [if_neg h]
    exact s_x0 hf rfl rfl (by unfold zex; dsimp only; unfold zaal; dsimp only; rw [if_neg (fun q => h (by rw [hl] at q; exact q.2))])
theorem s_aald88 {d k pc n : Nat} {ls st : List ZV} {M : ZM} {i : Int} (hf : zft k pc = some (n, .aaload)) : Q d k pc ls (zI i :: zR 88 :: st) M = if 0 ≤ i ∧ i < 20 then Q d k (pc + n) ls (zR (89 + i.toNat) :: st) M else none := by
  have hl : zln SH 88 = 20 := ln_88
  by_cases h : 0 ≤ i ∧ i < 20
  · rw [if_pos h]
    have hr : ∀ j, j < 20 → zrf SH 88 j = (89 + j) + 1 := by decide +kernel
    exact s_aald hf (Or.inr kn_88) _ (by rw [hl]; exact h) (hr _ (by omega))
  · rw [if_neg h]
    exact s_x0 hf rfl rfl (by unfold zex; dsimp only; unfold zaal; dsimp only; rw [if_neg (fun q => h (by rw [hl] at q; exact q.2))])
theorem w_44_13 {d : Nat} {x : Int} {ls st : List ZV} {M : ZM} : Q d 44 13 ls (zI x :: st) M = if x = 0 then Q d 44 40 ls st M else (if x = 1 then Q d 44 45 ls st M else (Q d 44 57 ls st M)) := by
  by_cases h0 : x = 0
  · subst h0
    rw [if_pos rfl]
    exact s_x f_44_13 rfl rfl rfl
  by_cases h1 : x = 1
  · subst h1
    rw [if_neg (by decide), if_pos rfl]
    exact s_x f_44_13 rfl rfl rfl
  rw [if_neg h0, if_neg h1]
  exact s_x f_44_13 rfl rfl (by show some (zjmp _ (Op.lookupswitch.offset [(0, 27), (1, 32)] 44 x), _, _, _) = _; rw [Op.lookupswitch.offset_cons, if_neg (Ne.symm h0), Op.lookupswitch.offset_cons, if_neg (Ne.symm h1)]; rfl)
theorem w_90_1 {d : Nat} {x : Int} {ls st : List ZV} {M : ZM} : Q d 90 1 ls (zI x :: st) M = if x = 99 then Q d 90 54 ls st M else (if x = 101 then Q d 90 56 ls st M else (if x = 107 then Q d 90 54 ls st M else (if x = 108 then Q d 90 54 ls st M else (if x = 114 then Q d 90 52 ls st M else (Q d 90 58 ls st M))))) := by
  by_cases h0 : x = 99
  · subst h0
    rw [if_pos rfl]
    exact s_x f_90_1 rfl rfl rfl
  by_cases h1 : x = 101
  · subst h1
    rw [if_neg (by decide), if_pos rfl]
    exact s_x f_90_1 rfl rfl rfl
  by_cases h2 : x = 107
  · subst h2
    rw [if_neg (by decide), if_neg (by decide), if_pos rfl]
    exact s_x f_90_1 rfl rfl rfl
  by_cases h3 : x = 108
  · subst h3
    rw [if_neg (by decide), if_neg (by decide), if_neg (by decide), if_pos rfl]
    exact s_x f_90_1 rfl rfl rfl
  by_cases h4 : x = 114
  · subst h4
    rw [if_neg (by decide), if_neg (by decide), if_neg (by decide), if_neg (by decide), if_pos rfl]
    exact s_x f_90_1 rfl rfl rfl
  rw [if_neg h0, if_neg h1, if_neg h2, if_neg h3, if_neg h4]
  exact s_x f_90_1 rfl rfl (by show some (zjmp _ (Op.lookupswitch.offset [(99, 53), (101, 55), (107, 53), (108, 53), (114, 51)] 57 x), _, _, _) = _; rw [Op.lookupswitch.offset_cons, if_neg (Ne.symm h0), Op.lookupswitch.offset_cons, if_neg (Ne.symm h1), Op.lookupswitch.offset_cons, if_neg (Ne.symm h2), Op.lookupswitch.offset_cons, if_neg (Ne.symm h3), Op.lookupswitch.offset_cons, if_neg (Ne.symm h4)]; rfl)
theorem w_96_1 {d : Nat} {x : Int} {ls st : List ZV} {M : ZM} : Q d 96 1 ls (zI x :: st) M = if x = 99 then Q d 96 61 ls st M else (if x = 107 then Q d 96 83 ls st M else (if x = 108 then Q d 96 72 ls st M else (if x = 114 then Q d 96 44 ls st M else (Q d 96 94 ls st M)))) := by
  by_cases h0 : x = 99
  · subst h0
    rw [if_pos rfl]
    exact s_x f_96_1 rfl rfl rfl
  by_cases h1 : x = 107
  · subst h1
    rw [if_neg (by decide), if_pos rfl]
    exact s_x f_96_1 rfl rfl rfl
  by_cases h2 : x = 108
  · subst h2
    rw [if_neg (by decide), if_neg (by decide), if_pos rfl]
    exact s_x f_96_1 rfl rfl rfl
  by_cases h3 : x = 114
  · subst h3
    rw [if_neg (by decide), if_neg (by decide), if_neg (by decide), if_pos rfl]
    exact s_x f_96_1 rfl rfl rfl
  rw [if_neg h0, if_neg h1, if_neg h2, if_neg h3]
  exact s_x f_96_1 rfl rfl (by show some (zjmp _ (Op.lookupswitch.offset [(99, 60), (107, 82), (108, 71), (114, 43)] 93 x), _, _, _) = _; rw [Op.lookupswitch.offset_cons, if_neg (Ne.symm h0), Op.lookupswitch.offset_cons, if_neg (Ne.symm h1), Op.lookupswitch.offset_cons, if_neg (Ne.symm h2), Op.lookupswitch.offset_cons, if_neg (Ne.symm h3)]; rfl)
theorem w_119_1 {d : Nat} {x : Int} {ls st : List ZV} {M : ZM} : Q d 119 1 ls (zI x :: st) M = if x = 0 then Q d 119 56 ls st M else (if x = 1 then Q d 119 64 ls st M else (if x = 2 then Q d 119 72 ls st M else (if x = 3 then Q d 119 80 ls st M else (if x = 4 then Q d 119 88 ls st M else (if x = 5 then Q d 119 96 ls st M else (if x = 6 then Q d 119 115 ls st M else (if x = 7 then Q d 119 123 ls st M else (if x = 8 then Q d 119 132 ls st M else (if x = 9 then Q d 119 140 ls st M else (Q d 119 148 ls st M)))))))))) := by
  by_cases hb : x < 0 ∨ 9 < x
  · rw [if_neg (by omega), if_neg (by omega), if_neg (by omega), if_neg (by omega), if_neg (by omega), if_neg (by omega), if_neg (by omega), if_neg (by omega), if_neg (by omega), if_neg (by omega)]
    exact s_x f_119_1 rfl rfl (by show (if x < 0 ∨ 9 < x then _ else _) = _; rw [if_pos hb]; rfl)
  · have hx : x = 0 ∨ x = 1 ∨ x = 2 ∨ x = 3 ∨ x = 4 ∨ x = 5 ∨ x = 6 ∨ x = 7 ∨ x = 8 ∨ x = 9 := by omega
    rcases hx with rfl | rfl | rfl | rfl | rfl | rfl | rfl | rfl | rfl | rfl
    · rw [if_pos rfl]
      exact s_x f_119_1 rfl rfl rfl
    · rw [if_neg (by decide), if_pos rfl]
      exact s_x f_119_1 rfl rfl rfl
    · rw [if_neg (by decide), if_neg (by decide), if_pos rfl]
      exact s_x f_119_1 rfl rfl rfl
    · rw [if_neg (by decide), if_neg (by decide), if_neg (by decide), if_pos rfl]
      exact s_x f_119_1 rfl rfl rfl
    · rw [if_neg (by decide), if_neg (by decide), if_neg (by decide), if_neg (by decide), if_pos rfl]
      exact s_x f_119_1 rfl rfl rfl
    · rw [if_neg (by decide), if_neg (by decide), if_neg (by decide), if_neg (by decide), if_neg (by decide), if_pos rfl]
      exact s_x f_119_1 rfl rfl rfl
    · rw [if_neg (by decide), if_neg (by decide), if_neg (by decide), if_neg (by decide), if_neg (by decide), if_neg (by decide), if_pos rfl]
      exact s_x f_119_1 rfl rfl rfl
    · rw [if_neg (by decide), if_neg (by decide), if_neg (by decide), if_neg (by decide), if_neg (by decide), if_neg (by decide), if_neg (by decide), if_pos rfl]
      exact s_x f_119_1 rfl rfl rfl
    · rw [if_neg (by decide), if_neg (by decide), if_neg (by decide), if_neg (by decide), if_neg (by decide), if_neg (by decide), if_neg (by decide), if_neg (by decide), if_pos rfl]
      exact s_x f_119_1 rfl rfl rfl
    · rw [if_neg (by decide), if_neg (by decide), if_neg (by decide), if_neg (by decide), if_neg (by decide), if_neg (by decide), if_neg (by decide), if_neg (by decide), if_neg (by decide), if_pos rfl]
      exact s_x f_119_1 rfl rfl rfl
theorem w_120_15 {d : Nat} {x : Int} {ls st : List ZV} {M : ZM} : Q d 120 15 ls (zI x :: st) M = if x = 0 then Q d 120 60 ls st M else (if x = 1 then Q d 120 70 ls st M else (if x = 2 then Q d 120 80 ls st M else (if x = 3 then Q d 120 90 ls st M else (if x = 4 then Q d 120 100 ls st M else (if x = 5 then Q d 120 113 ls st M else (if x = 6 then Q d 120 122 ls st M else (if x = 7 then Q d 120 131 ls st M else (Q d 120 140 ls st M)))))))) := by
  by_cases hb : x < 0 ∨ 7 < x
  · rw [if_neg (by omega), if_neg (by omega), if_neg (by omega), if_neg (by omega), if_neg (by omega), if_neg (by omega), if_neg (by omega), if_neg (by omega)]
    exact s_x f_120_15 rfl rfl (by show (if x < 0 ∨ 7 < x then _ else _) = _; rw [if_pos hb]; rfl)
  · have hx : x = 0 ∨ x = 1 ∨ x = 2 ∨ x = 3 ∨ x = 4 ∨ x = 5 ∨ x = 6 ∨ x = 7 := by omega
    rcases hx with rfl | rfl | rfl | rfl | rfl | rfl | rfl | rfl
    · rw [if_pos rfl]
      exact s_x f_120_15 rfl rfl rfl
    · rw [if_neg (by decide), if_pos rfl]
      exact s_x f_120_15 rfl rfl rfl
    · rw [if_neg (by decide), if_neg (by decide), if_pos rfl]
      exact s_x f_120_15 rfl rfl rfl
    · rw [if_neg (by decide), if_neg (by decide), if_neg (by decide), if_pos rfl]
      exact s_x f_120_15 rfl rfl rfl
    · rw [if_neg (by decide), if_neg (by decide), if_neg (by decide), if_neg (by decide), if_pos rfl]
      exact s_x f_120_15 rfl rfl rfl
    · rw [if_neg (by decide), if_neg (by decide), if_neg (by decide), if_neg (by decide), if_neg (by decide), if_pos rfl]
      exact s_x f_120_15 rfl rfl rfl
    · rw [if_neg (by decide), if_neg (by decide), if_neg (by decide), if_neg (by decide), if_neg (by decide), if_neg (by decide), if_pos rfl]
      exact s_x f_120_15 rfl rfl rfl
    · rw [if_neg (by decide), if_neg (by decide), if_neg (by decide), if_neg (by decide), if_neg (by decide), if_neg (by decide), if_neg (by decide), if_pos rfl]
      exact s_x f_120_15 rfl rfl rfl
theorem w_121_15 {d : Nat} {x : Int} {ls st : List ZV} {M : ZM} : Q d 121 15 ls (zI x :: st) M = if x = 0 then Q d 121 44 ls st M else (if x = 1 then Q d 121 54 ls st M else (if x = 2 then Q d 121 64 ls st M else (if x = 3 then Q d 121 77 ls st M else (Q d 121 101 ls st M)))) := by
  by_cases hb : x < 0 ∨ 3 < x
  · rw [if_neg (by omega), if_neg (by omega), if_neg (by omega), if_neg (by omega)]
    exact s_x f_121_15 rfl rfl (by show (if x < 0 ∨ 3 < x then _ else _) = _; rw [if_pos hb]; rfl)
  · have hx : x = 0 ∨ x = 1 ∨ x = 2 ∨ x = 3 := by omega
    rcases hx with rfl | rfl | rfl | rfl
    · rw [if_pos rfl]
      exact s_x f_121_15 rfl rfl rfl
    · rw [if_neg (by decide), if_pos rfl]
      exact s_x f_121_15 rfl rfl rfl
    · rw [if_neg (by decide), if_neg (by decide), if_pos rfl]
      exact s_x f_121_15 rfl rfl rfl
    · rw [if_neg (by decide), if_neg (by decide), if_neg (by decide), if_pos rfl]
      exact s_x f_121_15 rfl rfl rfl
theorem w_190_22 {d : Nat} {x : Int} {ls st : List ZV} {M : ZM} : Q d 190 22 ls (zI x :: st) M = if x = 0 then Q d 190 48 ls st M else (if x = 1 then Q d 190 53 ls st M else (Q d 190 73 ls st M)) := by
  by_cases h0 : x = 0
  · subst h0
    rw [if_pos rfl]
    exact s_x f_190_22 rfl rfl rfl
  by_cases h1 : x = 1
  · subst h1
    rw [if_neg (by decide), if_pos rfl]
    exact s_x f_190_22 rfl rfl rfl
  rw [if_neg h0, if_neg h1]
  exact s_x f_190_22 rfl rfl (by show some (zjmp _ (Op.lookupswitch.offset [(0, 26), (1, 31)] 51 x), _, _, _) = _; rw [Op.lookupswitch.offset_cons, if_neg (Ne.symm h0), Op.lookupswitch.offset_cons, if_neg (Ne.symm h1)]; rfl)
theorem w_204_4 {d : Nat} {x : Int} {ls st : List ZV} {M : ZM} : Q d 204 4 ls (zI x :: st) M = if x = 99 then Q d 204 77 ls st M else (if x = 107 then Q d 204 111 ls st M else (if x = 108 then Q d 204 94 ls st M else (if x = 114 then Q d 204 48 ls st M else (Q d 204 128 ls st M)))) := by
  by_cases h0 : x = 99
  · subst h0
    rw [if_pos rfl]
    exact s_x f_204_4 rfl rfl rfl
  by_cases h1 : x = 107
  · subst h1
    rw [if_neg (by decide), if_pos rfl]
    exact s_x f_204_4 rfl rfl rfl
  by_cases h2 : x = 108
  · subst h2
    rw [if_neg (by decide), if_neg (by decide), if_pos rfl]
    exact s_x f_204_4 rfl rfl rfl
  by_cases h3 : x = 114
  · subst h3
    rw [if_neg (by decide), if_neg (by decide), if_neg (by decide), if_pos rfl]
    exact s_x f_204_4 rfl rfl rfl
  rw [if_neg h0, if_neg h1, if_neg h2, if_neg h3]
  exact s_x f_204_4 rfl rfl (by show some (zjmp _ (Op.lookupswitch.offset [(99, 73), (107, 107), (108, 90), (114, 44)] 124 x), _, _, _) = _; rw [Op.lookupswitch.offset_cons, if_neg (Ne.symm h0), Op.lookupswitch.offset_cons, if_neg (Ne.symm h1), Op.lookupswitch.offset_cons, if_neg (Ne.symm h2), Op.lookupswitch.offset_cons, if_neg (Ne.symm h3)]; rfl)
theorem w_219_3 {d : Nat} {x : Int} {ls st : List ZV} {M : ZM} : Q d 219 3 ls (zI x :: st) M = if x = 0 then Q d 219 56 ls st M else (if x = 1 then Q d 219 64 ls st M else (if x = 2 then Q d 219 72 ls st M else (if x = 3 then Q d 219 110 ls st M else (if x = 4 then Q d 219 148 ls st M else (if x = 5 then Q d 219 185 ls st M else (if x = 6 then Q d 219 226 ls st M else (if x = 7 then Q d 219 264 ls st M else (if x = 8 then Q d 219 270 ls st M else (if x = 9 then Q d 219 312 ls st M else (Q d 219 317 ls st M)))))))))) := by
  by_cases hb : x < 0 ∨ 9 < x
  · rw [if_neg (by omega), if_neg (by omega), if_neg (by omega), if_neg (by omega), if_neg (by omega), if_neg (by omega), if_neg (by omega), if_neg (by omega), if_neg (by omega), if_neg (by omega)]
    exact s_x f_219_3 rfl rfl (by show (if x < 0 ∨ 9 < x then _ else _) = _; rw [if_pos hb]; rfl)
  · have hx : x = 0 ∨ x = 1 ∨ x = 2 ∨ x = 3 ∨ x = 4 ∨ x = 5 ∨ x = 6 ∨ x = 7 ∨ x = 8 ∨ x = 9 := by omega
    rcases hx with rfl | rfl | rfl | rfl | rfl | rfl | rfl | rfl | rfl | rfl
    · rw [if_pos rfl]
      exact s_x f_219_3 rfl rfl rfl
    · rw [if_neg (by decide), if_pos rfl]
      exact s_x f_219_3 rfl rfl rfl
    · rw [if_neg (by decide), if_neg (by decide), if_pos rfl]
      exact s_x f_219_3 rfl rfl rfl
    · rw [if_neg (by decide), if_neg (by decide), if_neg (by decide), if_pos rfl]
      exact s_x f_219_3 rfl rfl rfl
    · rw [if_neg (by decide), if_neg (by decide), if_neg (by decide), if_neg (by decide), if_pos rfl]
      exact s_x f_219_3 rfl rfl rfl
    · rw [if_neg (by decide), if_neg (by decide), if_neg (by decide), if_neg (by decide), if_neg (by decide), if_pos rfl]
      exact s_x f_219_3 rfl rfl rfl
    · rw [if_neg (by decide), if_neg (by decide), if_neg (by decide), if_neg (by decide), if_neg (by decide), if_neg (by decide), if_pos rfl]
      exact s_x f_219_3 rfl rfl rfl
    · rw [if_neg (by decide), if_neg (by decide), if_neg (by decide), if_neg (by decide), if_neg (by decide), if_neg (by decide), if_neg (by decide), if_pos rfl]
      exact s_x f_219_3 rfl rfl rfl
    · rw [if_neg (by decide), if_neg (by decide), if_neg (by decide), if_neg (by decide), if_neg (by decide), if_neg (by decide), if_neg (by decide), if_neg (by decide), if_pos rfl]
      exact s_x f_219_3 rfl rfl rfl
    · rw [if_neg (by decide), if_neg (by decide), if_neg (by decide), if_neg (by decide), if_neg (by decide), if_neg (by decide), if_neg (by decide), if_neg (by decide), if_neg (by decide), if_pos rfl]
      exact s_x f_219_3 rfl rfl rfl
theorem w_220_12 {d : Nat} {x : Int} {ls st : List ZV} {M : ZM} : Q d 220 12 ls (zI x :: st) M = if x = 0 then Q d 220 60 ls st M else (if x = 1 then Q d 220 60 ls st M else (if x = 2 then Q d 220 60 ls st M else (if x = 3 then Q d 220 60 ls st M else (if x = 4 then Q d 220 67 ls st M else (if x = 5 then Q d 220 77 ls st M else (if x = 6 then Q d 220 83 ls st M else (if x = 7 then Q d 220 89 ls st M else (Q d 220 95 ls st M)))))))) := by
  by_cases hb : x < 0 ∨ 7 < x
  · rw [if_neg (by omega), if_neg (by omega), if_neg (by omega), if_neg (by omega), if_neg (by omega), if_neg (by omega), if_neg (by omega), if_neg (by omega)]
    exact s_x f_220_12 rfl rfl (by show (if x < 0 ∨ 7 < x then _ else _) = _; rw [if_pos hb]; rfl)
  · have hx : x = 0 ∨ x = 1 ∨ x = 2 ∨ x = 3 ∨ x = 4 ∨ x = 5 ∨ x = 6 ∨ x = 7 := by omega
    rcases hx with rfl | rfl | rfl | rfl | rfl | rfl | rfl | rfl
    · rw [if_pos rfl]
      exact s_x f_220_12 rfl rfl rfl
    · rw [if_neg (by decide), if_pos rfl]
      exact s_x f_220_12 rfl rfl rfl
    · rw [if_neg (by decide), if_neg (by decide), if_pos rfl]
      exact s_x f_220_12 rfl rfl rfl
    · rw [if_neg (by decide), if_neg (by decide), if_neg (by decide), if_pos rfl]
      exact s_x f_220_12 rfl rfl rfl
    · rw [if_neg (by decide), if_neg (by decide), if_neg (by decide), if_neg (by decide), if_pos rfl]
      exact s_x f_220_12 rfl rfl rfl
    · rw [if_neg (by decide), if_neg (by decide), if_neg (by decide), if_neg (by decide), if_neg (by decide), if_pos rfl]
      exact s_x f_220_12 rfl rfl rfl
    · rw [if_neg (by decide), if_neg (by decide), if_neg (by decide), if_neg (by decide), if_neg (by decide), if_neg (by decide), if_pos rfl]
      exact s_x f_220_12 rfl rfl rfl
    · rw [if_neg (by decide), if_neg (by decide), if_neg (by decide), if_neg (by decide), if_neg (by decide), if_neg (by decide), if_neg (by decide), if_pos rfl]
      exact s_x f_220_12 rfl rfl rfl
theorem w_221_12 {d : Nat} {x : Int} {ls st : List ZV} {M : ZM} : Q d 221 12 ls (zI x :: st) M = if x = 0 then Q d 221 44 ls st M else (if x = 1 then Q d 221 44 ls st M else (if x = 2 then Q d 221 51 ls st M else (if x = 3 then Q d 221 61 ls st M else (Q d 221 67 ls st M)))) := by
  by_cases hb : x < 0 ∨ 3 < x
  · rw [if_neg (by omega), if_neg (by omega), if_neg (by omega), if_neg (by omega)]
    exact s_x f_221_12 rfl rfl (by show (if x < 0 ∨ 3 < x then _ else _) = _; rw [if_pos hb]; rfl)
  · have hx : x = 0 ∨ x = 1 ∨ x = 2 ∨ x = 3 := by omega
    rcases hx with rfl | rfl | rfl | rfl
    · rw [if_pos rfl]
      exact s_x f_221_12 rfl rfl rfl
    · rw [if_neg (by decide), if_pos rfl]
      exact s_x f_221_12 rfl rfl rfl
    · rw [if_neg (by decide), if_neg (by decide), if_pos rfl]
      exact s_x f_221_12 rfl rfl rfl
    · rw [if_neg (by decide), if_neg (by decide), if_neg (by decide), if_pos rfl]
      exact s_x f_221_12 rfl rfl rfl
