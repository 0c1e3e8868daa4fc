/-! averages: the bits of a double, by both -/
section
variable {d k pc n : Nat} {ls st : List ZV} {M : ZM}
theorem s_lret {x : Int64} (hf : zft k pc = some (n, .lreturn)) (ht : zrty k = some .long) : Q d k pc ls [zL x] M = Rt (some (zL x)) M := by
  unfold Q
  rw [zrun_eq]
  unfold zgo
  rw [hf]
  dsimp only
  have e : zret k .lreturn [zL x] = some (some (zL x)) := by
    unfold zret
    dsimp only
    rw [if_pos ht]
  rw [e]
  rfl
theorem s_raw {x : Nat} {y : UInt64} (hf : zft k pc = some (n, .invokestatic x)) (hl : zMl.lookup (zky (zown k) x) = some (0, 7)) (hs : ((zD y :: st).map zct).sum ≤ 12) : Q d k pc ls (zD y :: st) M = Q d k (pc + n) ls (zL y.toInt64 :: st) M := s_x hf rfl (by unfold zcal; dsimp only; rw [hl]; rfl) (by unfold zex; dsimp only; rw [hl]; show (if ((zD y :: st).map zct).sum ≤ 12 then _ else none) = _; rw [if_pos hs]; rfl)
theorem s_dop {x y r : UInt64} {i : Instr} (f : UInt64 → UInt64 → UInt64) (hf : zft k pc = some (n, i)) (hr : zret k i (zD y :: zD x :: st) = none) (hc : zcal (zown k) i = none) (hx : zex (zown k) i pc n ls (zD y :: zD x :: st) (SH, M) = zbd (pc + n) ls (zD y :: zD x :: st) (SH, M) (fun x y => znan (f x y))) (e : f x y = r) (z : znan r = some (zD r)) : Q d k pc ls (zD y :: zD x :: st) M = Q d k (pc + n) ls (zD r :: st) M := s_x hf hr hc (by
  rw [hx]
  show (znan (f x y)).map (fun v => (pc + n, ls, v :: st, (SH, M))) = _
  rw [e, z]
  rfl)
theorem s_dcmp {x y : UInt64} {o : Jvm.ClassFile.CmpOp} (v : Int) (hf : zft k pc = some (n, .dcmp o)) (e : (Op.cmpValue (FP.dcmp x y) o).toInt = v) : Q d k pc ls (zD y :: zD x :: st) M = Q d k (pc + n) ls (zI v :: st) M := s_x hf rfl rfl (by
  show some (pc + n, ls, zI (Op.cmpValue (FP.dcmp x y) o).toInt :: st, (SH, M)) = _
  rw [e])
theorem s_ldl {x : Nat} {v : Int64} (hf : zft k pc = some (n, .ldc2_w x)) (hl : zKl.lookup (zky (zown k) x) = some v) : Q d k pc ls st M = Q d k (pc + n) ls (zL v :: st) M := s_x hf rfl rfl (by
  unfold zex
  dsimp only
  rw [hl])
theorem s_ldd {x : Nat} {v : UInt64} (hf : zft k pc = some (n, .ldc2_w x)) (h0 : zKl.lookup (zky (zown k) x) = none) (hl : zKd.lookup (zky (zown k) x) = some v) : Q d k pc ls st M = Q d k (pc + n) ls (zD v :: st) M := s_x hf rfl rfl (by
  unfold zex
  dsimp only
  rw [h0, hl]
  rfl)
end
section
variable {d : Nat} {M : ZM} {a : UInt64} {c : Nat}
theorem kl_318 : zKl.lookup (zky (zown 151) 318) = some 1023 := by decide +kernel
theorem kl_320 : zKl.lookup (zky (zown 151) 320) = none := by decide +kernel
theorem kd_320 : zKd.lookup (zky (zown 151) 320) = some b2 := by decide +kernel
theorem kl_322 : zKl.lookup (zky (zown 151) 322) = none := by decide +kernel
theorem kd_322 : zKd.lookup (zky (zown 151) 322) = some b52 := by decide +kernel
theorem x_halves (K : Nat) : ∀ (i : Int), bok K c → 0 ≤ i → i + K ≤ 100 → ∃ j, Q d 151 18 [zD a, zU, zD (bY K c), zU, zL (Int64.ofInt (1023 + i)), zU, zI i] [] M = Q d 151 52 [zD a, zU, zD (bY 0 c), zU, zL (Int64.ofInt (1023 + (i + K))), zU, zI j] [] M := by
  have head : ∀ (K : Nat) (i : Int) (e : Int64), 0 ≤ i → i ≤ 200 → Q d 151 18 [zD a, zU, zD (bY K c), zU, zL e, zU, zI i] [] M = Q d 151 30 [zD a, zU, zD (bY K c), zU, zL e, zU, zI i] [zD b2, zD (bY K c)] M := by
    intro K i e i0 i1
    refine Eq.trans (s_iload f_151_18 rfl) ?_
    refine Eq.trans (s_sipush f_151_20) ?_
    refine Eq.trans (s_icmp (P := (1023 : Int) ≤ i) 52 f_151_23 (by decide) rfl) ?_
    rw [if_neg (by omega)]
    refine Eq.trans (s_x (pc' := 27) (ls' := [zD a, zU, zD (bY K c), zU, zL e, zU, zI i]) (st' := [zD (bY K c)]) f_151_26 rfl rfl rfl) ?_
    exact s_ldd f_151_27 kl_320 kd_320
  induction K with
  | zero =>
    intro i hb i0 i1
    refine ⟨i, ?_⟩
    rw [head 0 i _ i0 (by omega)]
    refine Eq.trans (s_dcmp (-1) f_151_30 (by rw [b_cmp0 hb]; rfl)) ?_
    refine Eq.trans (s_if (P := (-1 : Int) < 0) 52 f_151_31 (by decide) rfl) ?_
    rw [if_pos (by decide), show i + ((0 : Nat) : Int) = i by omega]
  | succ K ih =>
    intro i hb i0 i1
    have hb0 : bok K c := by unfold bok at hb ⊢; omega
    obtain ⟨j, hj⟩ := ih (i + 1) hb0 (by omega) (by omega)
    refine ⟨j, ?_⟩
    rw [head (K + 1) i _ i0 (by omega)]
    have cont : ∀ v : Int, 0 ≤ v → (Op.cmpValue (FP.dcmp (bY (K + 1) c) b2) .l).toInt = v → Q d 151 30 [zD a, zU, zD (bY (K + 1) c), zU, zL (Int64.ofInt (1023 + i)), zU, zI i] [zD b2, zD (bY (K + 1) c)] M = Q d 151 34 [zD a, zU, zD (bY (K + 1) c), zU, zL (Int64.ofInt (1023 + i)), zU, zI i] [] M := by
      intro v v0 e
      refine Eq.trans (s_dcmp v f_151_30 e) ?_
      refine Eq.trans (s_if (P := v < 0) 52 f_151_31 (by decide) rfl) ?_
      rw [if_neg (by omega)]
    have go : Q d 151 30 [zD a, zU, zD (bY (K + 1) c), zU, zL (Int64.ofInt (1023 + i)), zU, zI i] [zD b2, zD (bY (K + 1) c)] M = Q d 151 34 [zD a, zU, zD (bY (K + 1) c), zU, zL (Int64.ofInt (1023 + i)), zU, zI i] [] M := by
      rcases b_cmpS hb with e | e
      · exact cont 0 (by decide) (by rw [e]; rfl)
      · exact cont 1 (by decide) (by rw [e]; rfl)
    rw [go]
    refine Eq.trans (s_x (pc' := 35) (ls' := [zD a, zU, zD (bY (K + 1) c), zU, zL (Int64.ofInt (1023 + i)), zU, zI i]) (st' := [zD (bY (K + 1) c)]) f_151_34 rfl rfl rfl) ?_
    refine Eq.trans (s_ldd f_151_35 kl_320 kd_320) ?_
    refine Eq.trans (s_dop FP.ddiv f_151_38 rfl rfl rfl (b_half hb) (b_znan hb0)) ?_
    refine Eq.trans (s_x (pc' := 40) (ls' := [zD a, zU, zD (bY K c), zU, zL (Int64.ofInt (1023 + i)), zU, zI i]) (st' := []) f_151_39 rfl rfl rfl) ?_
    refine Eq.trans (s_x (pc' := 42) (ls' := [zD a, zU, zD (bY K c), zU, zL (Int64.ofInt (1023 + i)), zU, zI i]) (st' := [zL (Int64.ofInt (1023 + i))]) f_151_40 rfl rfl rfl) ?_
    refine Eq.trans (s_x (pc' := 43) (ls' := [zD a, zU, zD (bY K c), zU, zL (Int64.ofInt (1023 + i)), zU, zI i]) (st' := [zL (Int64.ofNat 1), zL (Int64.ofInt (1023 + i))]) f_151_42 rfl rfl rfl) ?_
    refine Eq.trans (s_x (pc' := 44) (ls' := [zD a, zU, zD (bY K c), zU, zL (Int64.ofInt (1023 + i)), zU, zI i]) (st' := [zL (Int64.ofInt (1023 + i) + Int64.ofNat 1)]) f_151_43 rfl rfl rfl) ?_
    refine Eq.trans (s_x (pc' := 46) (ls' := [zD a, zU, zD (bY K c), zU, zL (Int64.ofInt (1023 + i) + Int64.ofNat 1), zU, zI i]) (st' := []) f_151_44 rfl rfl rfl) ?_
    refine Eq.trans (s_iinc (x := i) (ls' := [zD a, zU, zD (bY K c), zU, zL (Int64.ofInt (1023 + i) + Int64.ofNat 1), zU, zI (zw (i + 1))]) f_151_46 rfl rfl) ?_
    refine Eq.trans (s_goto 18 f_151_49 (by decide)) ?_
    have le : Int64.ofInt (1023 + i) + Int64.ofNat 1 = Int64.ofInt (1023 + (i + 1)) := by
      have h := Int64.ofInt_add (1023 + i) 1
      rw [show (1023 + (i + 1)) = (1023 + i) + 1 by omega, h]
      rfl
    rw [le, zw_id (by omega), hj, show i + 1 + (K : Int) = i + ((K + 1 : Nat) : Int) by omega]
theorem x_bitsOf {K : Nat} (hb : bok K c) : E (d + 1) 151 [zD (bY K c)] M = Rt (some (zL (bY K c).toInt64)) M := by
  have en : E (d + 1) 151 [zD (bY K c)] M = Q d 151 0 [zD (bY K c), zU, zU, zU, zU, zU, zU] [] M := e_in (by show 2 ≤ zmax 151; decide +kernel)
  have hb0 : bok 0 c := by unfold bok at hb ⊢; omega
  rw [en]
  refine Eq.trans (s_x (pc' := 1) (ls' := [zD (bY K c), zU, zU, zU, zU, zU, zU]) (st' := [zD (bY K c)]) f_151_0 rfl rfl rfl) ?_
  refine Eq.trans (s_x (pc' := 2) (ls' := [zD (bY K c), zU, zU, zU, zU, zU, zU]) (st' := [zD b1, zD (bY K c)]) f_151_1 rfl rfl (by unfold zex; dsimp only; rw [if_pos rfl]; rfl)) ?_
  have go : Q d 151 2 [zD (bY K c), zU, zU, zU, zU, zU, zU] [zD b1, zD (bY K c)] M = Q d 151 8 [zD (bY K c), zU, zU, zU, zU, zU, zU] [] M := by
    have cont : ∀ v : Int, 0 ≤ v → (Op.cmpValue (FP.dcmp (bY K c) b1) .g).toInt = v → Q d 151 2 [zD (bY K c), zU, zU, zU, zU, zU, zU] [zD b1, zD (bY K c)] M = Q d 151 8 [zD (bY K c), zU, zU, zU, zU, zU, zU] [] M := by
      intro v v0 e
      refine Eq.trans (s_dcmp v f_151_2 e) ?_
      refine Eq.trans (s_if (P := (0 : Int) ≤ v) 8 f_151_3 (by decide) rfl) ?_
      rw [if_pos v0]
    rcases b_cmp1 hb with e | e
    · exact cont 0 (by decide) (by rw [e]; rfl)
    · exact cont 1 (by decide) (by rw [e]; rfl)
  rw [go]
  refine Eq.trans (s_x (pc' := 9) (ls' := [zD (bY K c), zU, zU, zU, zU, zU, zU]) (st' := [zD (bY K c)]) f_151_8 rfl rfl rfl) ?_
  refine Eq.trans (s_x (pc' := 10) (ls' := [zD (bY K c), zU, zD (bY K c), zU, zU, zU, zU]) (st' := []) f_151_9 rfl rfl rfl) ?_
  refine Eq.trans (s_ldl f_151_10 kl_318) ?_
  refine Eq.trans (s_x (pc' := 15) (ls' := [zD (bY K c), zU, zD (bY K c), zU, zL 1023, zU, zU]) (st' := []) f_151_13 rfl rfl rfl) ?_
  refine Eq.trans (s_iconst f_151_15) ?_
  refine Eq.trans (s_istore (ls' := [zD (bY K c), zU, zD (bY K c), zU, zL 1023, zU, zI 0]) f_151_16 rfl) ?_
  obtain ⟨j, e⟩ := x_halves (d := d) (M := M) (a := bY K c) (c := c) K 0 hb (by decide) (by unfold bok at hb; omega)
  have i0 : Int64.ofInt (1023 + 0) = 1023 := by decide +kernel
  rw [i0, show (0 : Int) + (K : Int) = K by omega] at e
  refine Eq.trans e ?_
  obtain ⟨x, y, x1, x2, y1, y2, t⟩ := b_tail hb0
  refine Eq.trans (s_x (pc' := 54) (ls' := [zD (bY K c), zU, zD (bY 0 c), zU, zL (Int64.ofInt (1023 + K)), zU, zI j]) (st' := [zL (Int64.ofInt (1023 + K))]) f_151_52 rfl rfl rfl) ?_
  refine Eq.trans (s_bipush f_151_54) ?_
  refine Eq.trans (s_x (pc' := 57) (ls' := [zD (bY K c), zU, zD (bY 0 c), zU, zL (Int64.ofInt (1023 + K)), zU, zI j]) (st' := [zL (Int64.ofInt (1023 + K) <<< ((Int32.ofInt 52).toInt64 &&& 63))]) f_151_56 rfl rfl rfl) ?_
  refine Eq.trans (s_x (pc' := 58) (ls' := [zD (bY K c), zU, zD (bY 0 c), zU, zL (Int64.ofInt (1023 + K)), zU, zI j]) (st' := [zD (bY 0 c), zL (Int64.ofInt (1023 + K) <<< ((Int32.ofInt 52).toInt64 &&& 63))]) f_151_57 rfl rfl rfl) ?_
  refine Eq.trans (s_x (pc' := 59) (ls' := [zD (bY K c), zU, zD (bY 0 c), zU, zL (Int64.ofInt (1023 + K)), zU, zI j]) (st' := [zD b1, zD (bY 0 c), zL (Int64.ofInt (1023 + K) <<< ((Int32.ofInt 52).toInt64 &&& 63))]) f_151_58 rfl rfl (by unfold zex; dsimp only; rw [if_pos rfl]; rfl)) ?_
  refine Eq.trans (s_dop FP.dsub f_151_59 rfl rfl rfl x1 x2) ?_
  refine Eq.trans (s_ldd f_151_60 kl_322 kd_322) ?_
  refine Eq.trans (s_dop (r := y) FP.dmul f_151_63 rfl rfl rfl (by rw [← x1]; rw [x1]; exact y1) y2) ?_
  refine Eq.trans (s_x (pc' := 65) (ls' := [zD (bY K c), zU, zD (bY 0 c), zU, zL (Int64.ofInt (1023 + K)), zU, zI j]) (st' := [zL (FP.d2l y), zL (Int64.ofInt (1023 + K) <<< ((Int32.ofInt 52).toInt64 &&& 63))]) f_151_64 rfl rfl rfl) ?_
  refine Eq.trans (s_x (pc' := 66) (ls' := [zD (bY K c), zU, zD (bY 0 c), zU, zL (Int64.ofInt (1023 + K)), zU, zI j]) (st' := [zL ((Int64.ofInt (1023 + K) <<< ((Int32.ofInt 52).toInt64 &&& 63)) ||| FP.d2l y)]) f_151_65 rfl rfl rfl) ?_
  rw [t, b_join hb]
  exact s_lret f_151_66 t_151
theorem x_bitsOf0 : E (d + 1) 151 [zD 0] M = Rt (some (zL 0)) M := by
  have en : E (d + 1) 151 [zD 0] M = Q d 151 0 [zD 0, zU, zU, zU, zU, zU, zU] [] M := e_in (by show 2 ≤ zmax 151; decide +kernel)
  rw [en]
  refine Eq.trans (s_x (pc' := 1) (ls' := [zD 0, zU, zU, zU, zU, zU, zU]) (st' := [zD 0]) f_151_0 rfl rfl rfl) ?_
  refine Eq.trans (s_x (pc' := 2) (ls' := [zD 0, zU, zU, zU, zU, zU, zU]) (st' := [zD b1, zD 0]) f_151_1 rfl rfl (by unfold zex; dsimp only; rw [if_pos rfl]; rfl)) ?_
  refine Eq.trans (s_dcmp (-1) f_151_2 (by decide +kernel)) ?_
  refine Eq.trans (s_if (P := (0 : Int) ≤ -1) 8 f_151_3 (by decide) rfl) ?_
  rw [if_neg (by decide)]
  refine Eq.trans (s_x (pc' := 7) (ls' := [zD 0, zU, zU, zU, zU, zU, zU]) (st' := [zL 0]) f_151_6 rfl rfl rfl) ?_
  exact s_lret f_151_7 t_151
theorem ml_134 : zMl.lookup (zky (zown 248) 134) = some (0, 7) := by decide +kernel
theorem m_bits (h : FP.Core.val64 a ≠ .nan) : E (d + 2) 248 [zD a] M = Rt (some (zL a.toInt64)) M := by
  have en : E (d + 2) 248 [zD a] M = Q (d + 1) 248 0 [zD a, zU] [] M := e_in (by show 2 ≤ zmax 248; decide +kernel)
  have en2 : E (d + 1) 247 [zD a] M = Q d 247 0 [zD a, zU] [] M := e_in (by show 2 ≤ zmax 247; decide +kernel)
  have nan : E (d + 1) 247 [zD a] M = Rt (some (zI 0)) M := by
    rw [en2]
    refine Eq.trans (s_x (pc' := 1) (ls' := [zD a, zU]) (st' := [zD a]) f_247_0 rfl rfl rfl) ?_
    refine Eq.trans (s_x (pc' := 2) (ls' := [zD a, zU]) (st' := [zD a, zD a]) f_247_1 rfl rfl rfl) ?_
    refine Eq.trans (s_dcmp 0 f_247_2 (by rw [show FP.dcmp a a = some .eq from FP.Core.dcmp_self h]; rfl)) ?_
    refine Eq.trans (s_if (P := (0 : Int) = 0) 10 f_247_3 (by decide) rfl) ?_
    rw [if_pos rfl]
    refine Eq.trans (s_iconst f_247_10) ?_
    exact s_zret f_247_11 t_247 (Or.inl rfl)
  rw [en]
  refine Eq.trans (s_x (pc' := 1) (ls' := [zD a, zU]) (st' := [zD a]) f_248_0 rfl rfl rfl) ?_
  refine Eq.trans (s_call [zD a] [] f_248_1 rfl c_248_122 rfl rfl (Nat.le_of_ble_eq_true rfl) rfl) ?_
  rw [nan]
  show Q (d + 1) 248 4 [zD a, zU] [zI 0] M = _
  refine Eq.trans (s_if (P := (0 : Int) ≠ 0) 12 f_248_4 (by decide) rfl) ?_
  rw [if_neg (by decide)]
  refine Eq.trans (s_x (pc' := 8) (ls' := [zD a, zU]) (st' := [zD a]) f_248_7 rfl rfl rfl) ?_
  refine Eq.trans (s_raw f_248_8 ml_134 (Nat.le_of_ble_eq_true rfl)) ?_
  exact s_lret f_248_11 t_248
end
