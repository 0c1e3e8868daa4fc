/-! a step of the numbers' machine is a step of the machine -/
theorem zMl_at {o x : Nat} {q : Nat × Nat} (h : zMl.lookup (zky o x) = some q) : ∃ ps, zMchk (zky o x, q) ps = true := zMl_chk (zlook_mem h)
theorem zcats (b sc : Nat) (st : List ZV) : ((st.map (zcv b sc)).map fun v => v.category).sum = (st.map zct).sum := by
  rw [List.map_map]
  congr 1
  apply List.map_congr_left
  intro v _
  exact zct_cat b sc v
theorem zc1_cat {b sc : Nat} {v : ZV} (h : zc1 v = true) : (zcv b sc v).category = 1 := by
  rcases v with x | x | x | x | x <;> first | rfl | cases h
set_option maxHeartbeats 8000000 in
theorem zex_W {p : Program} {l : Launch} {e : Env} {R : Room} {s : State} {m : MethodId} {args : Array Value} {below : List Frame} {meth : Method} {c : Code} {Q : State → Prop} {b sc : Nat} {D : va_G} {cA : Nat → ClassId} {k cells slots : Nat} {H : Heap} {locs : List Loc} {lsA : Array Slot} {pc n : Nat} {i : Instr} {ls st : List ZV} {h : ZH} {r : Nat × List ZV × List ZV × ZH}
    (hk : k < 256) (hf : zft k pc = some (n, i)) (F : zFr p R s m args meth c D cA k) (hrel : zRel b sc D cA s k ls h H locs lsA) (hl : zoks ls) (hs : zoks st) (hi : zinv h) (eq : zex (zown k) i pc n ls st h = some r)
    (hR : cells + r.2.2.2.1.length ≤ R.cells + h.1.length ∧ slots + ztot r.2.2.2.1 ≤ R.slots + ztot h.1) (hR0 : cells ≤ R.cells ∧ slots ≤ R.slots) (kk : zKK p l e R s m args below meth c Q b sc D cA k cells slots h r) : zGo p l e R s m args below meth c Q b sc cells slots H locs lsA pc st := by
  have hd := zd_at hk hf
  have hst := zft_stat hf
  obtain ⟨hoff, hidx⟩ := zft_st2 hf
  have F2 := F
  obtain ⟨hex, hb, hml, hown, hts, hK, hnm, hfr, hlo⟩ := F
  have hsz : c.maxLocals = lsA.size := by rw [hml, hrel.1.1]
  have hlen := hrel.2.1
  have kS : ∀ {pc' : Nat} {st' : List ZV}, r = (pc', ls, st', h) → zGo p l e R s m args below meth c Q b sc cells slots H locs lsA pc' st' := by
    intro pc' st' q
    subst q
    exact kk H locs lsA cells slots hrel rfl rfl
  cases i
  case iconst v =>
    cases eq
    simp only [zstat, Bool.and_eq_true, decide_eq_true_eq, beq_iff_eq] at hst
    obtain ⟨-, rfl⟩ := hst
    exact lv_iconst hex hb hd rfl (kS rfl)
  case bipush v =>
    cases eq
    simp only [zstat, Bool.and_eq_true, decide_eq_true_eq, beq_iff_eq] at hst
    obtain ⟨hv, rfl⟩ := hst
    refine lv_bipush hex hb hd (v := Int32.ofInt v) ?_ (kS rfl)
    apply Int32.toInt_inj.mp
    rw [Int8.toInt_toInt32, zt (by unfold zrg; omega), Int8.toInt_ofInt, Int.bmod_def]
    simp only [Int8.size] at *
    omega
  case sipush v =>
    cases eq
    simp only [zstat, Bool.and_eq_true, decide_eq_true_eq, beq_iff_eq] at hst
    obtain ⟨hv, rfl⟩ := hst
    refine lv_sipush hex hb hd (v := Int32.ofInt v) ?_ (kS rfl)
    apply Int32.toInt_inj.mp
    rw [Int16.toInt_toInt32, zt (by unfold zrg; omega), Int16.toInt_ofInt, Int.bmod_def]
    simp only [Int16.size] at *
    omega
  case ldc x =>
    obtain ⟨v, h1, rfl⟩ := Option.map_eq_some_iff.mp eq
    simp only [zstat, beq_iff_eq] at hst
    subst hst
    have hw := List.all_eq_true.mp zKi_ok _ (zlook_mem h1)
    simp only [zky_div (show x < 4096 from hidx), zky_mod (show x < 4096 from hidx)] at hw
    exact lv_ldc hex hb hown (hts _ (zwk_of hw)) hd (kS rfl)
  case ldc_w x =>
    obtain ⟨v, h1, rfl⟩ := Option.map_eq_some_iff.mp eq
    simp only [zstat, beq_iff_eq] at hst
    subst hst
    have hw := List.all_eq_true.mp zKi_ok _ (zlook_mem h1)
    simp only [zky_div (show x < 4096 from hidx), zky_mod (show x < 4096 from hidx)] at hw
    exact lv_ldcw hex hb hown (hts _ (zwk_of hw)) hd (kS rfl)
  case lconst v =>
    cases eq
    simp only [zstat, beq_iff_eq] at hst
    subst hst
    exact lv_lconst hex hb hd rfl (kS rfl)
  case ldc2_w x =>
    simp only [zstat, beq_iff_eq] at hst
    subst hst
    unfold zex at eq
    dsimp only at eq
    split at eq
    · next v h1 =>
      cases eq
      have hw := List.all_eq_true.mp zKl_ok _ (zlook_mem h1)
      simp only [zky_div (show x < 4096 from hidx), zky_mod (show x < 4096 from hidx)] at hw
      exact lv_ldc2 hex hb hown (hts _ (zwk_of hw)) hd (kS rfl)
    · obtain ⟨v, h1, rfl⟩ := Option.map_eq_some_iff.mp eq
      have hw := List.all_eq_true.mp zKd_ok _ (zlook_mem h1)
      simp only [zky_div (show x < 4096 from hidx), zky_mod (show x < 4096 from hidx)] at hw
      exact lv_ldc2d hex hb hown (hts _ (zwk_of hw)) hd (kS rfl)
  case dconst d =>
    simp only [zstat, beq_iff_eq] at hst
    subst hst
    unfold zex at eq
    dsimp only at eq
    split at eq
    · next hh =>
      cases eq
      subst hh
      exact lv_dconst1 hex hb hd (kS rfl)
    · cases eq
  case iload j =>
    simp only [zstat, beq_iff_eq] at hst
    subst hst
    obtain ⟨v, h1, rfl⟩ := Option.map_eq_some_iff.mp eq
    obtain ⟨x, rfl, h2⟩ := zgi_some h1
    exact lv_iload hex hb hd (zlv_get hrel.1 h2 rfl) (kS rfl)
  case iload_n j =>
    simp only [zstat, beq_iff_eq] at hst
    subst hst
    obtain ⟨v, h1, rfl⟩ := Option.map_eq_some_iff.mp eq
    obtain ⟨x, rfl, h2⟩ := zgi_some h1
    exact lv_iload_n hex hb hd rfl (zlv_get hrel.1 h2 rfl) (kS rfl)
  case aload j =>
    simp only [zstat, beq_iff_eq] at hst
    subst hst
    obtain ⟨v, h1, rfl⟩ := Option.map_eq_some_iff.mp eq
    obtain ⟨x, rfl, h2⟩ := zga_some h1
    exact lv_aload hex hb hd (zlv_get hrel.1 h2 rfl) (kS rfl)
  case aload_n j =>
    simp only [zstat, beq_iff_eq] at hst
    subst hst
    obtain ⟨v, h1, rfl⟩ := Option.map_eq_some_iff.mp eq
    obtain ⟨x, rfl, h2⟩ := zga_some h1
    exact lv_aload_n hex hb hd rfl (zlv_get hrel.1 h2 rfl) (kS rfl)
  case lload j =>
    simp only [zstat, beq_iff_eq] at hst
    subst hst
    obtain ⟨v, h1, rfl⟩ := Option.map_eq_some_iff.mp eq
    obtain ⟨x, rfl, h2⟩ := zgl_some h1
    exact lv_lload hex hb hd (zlv_get hrel.1 h2 rfl) (kS rfl)
  case dload_n j =>
    simp only [zstat, beq_iff_eq] at hst
    subst hst
    obtain ⟨v, h1, rfl⟩ := Option.map_eq_some_iff.mp eq
    obtain ⟨x, rfl, h2⟩ := zgd_some h1
    exact lv_dload_n hex hb hd rfl (zlv_get hrel.1 h2 rfl) (kS rfl)
  case istore j =>
    simp only [zstat, beq_iff_eq] at hst
    subst hst
    obtain ⟨x, st0, l', rfl, h1, rfl⟩ := zsi_some eq
    refine lv_istore (x := Int32.ofInt x) hex hb hd hrel.1 (by have := (zs1_lt h1).1; omega) rfl (fun ls' h' => ?_)
    exact kk H locs ls' cells slots (zsame hrel (zlv_st1 rfl h1 rfl h') (zs1_lt h1).2) rfl rfl
  case istore_n j =>
    simp only [zstat, beq_iff_eq] at hst
    subst hst
    obtain ⟨x, st0, l', rfl, h1, rfl⟩ := zsi_some eq
    refine lv_istore_n (x := Int32.ofInt x) hex hb hd rfl hrel.1 (by have := (zs1_lt h1).1; omega) rfl (fun ls' h' => ?_)
    exact kk H locs ls' cells slots (zsame hrel (zlv_st1 rfl h1 rfl h') (zs1_lt h1).2) rfl rfl
  case astore_n j =>
    simp only [zstat, beq_iff_eq] at hst
    subst hst
    obtain ⟨x, st0, l', rfl, h1, rfl⟩ := zsa_some eq
    refine lv_astore_n (x := zad b sc x) hex hb hd rfl hrel.1 (by have := (zs1_lt h1).1; omega) rfl (fun ls' h' => ?_)
    exact kk H locs ls' cells slots (zsame hrel (zlv_st1 rfl h1 rfl h') (zs1_lt h1).2) rfl rfl
  case lstore j =>
    simp only [zstat, beq_iff_eq] at hst
    subst hst
    obtain ⟨x, st0, l', rfl, h1, rfl⟩ := zsl_some eq
    refine lv_lstore (x := x) hex hb hd hrel.1 (by have := (zs2_lt h1).1; omega) rfl (fun ls' h' => ?_)
    exact kk H locs ls' cells slots (zsame hrel (zlv_st2 rfl h1 rfl h') (zs2_lt h1).2) rfl rfl
  case dstore_n j =>
    simp only [zstat, beq_iff_eq] at hst
    subst hst
    obtain ⟨x, st0, l', rfl, h1, rfl⟩ := zsd_some eq
    refine lv_dstore_n (x := x) hex hb hd rfl hrel.1 (by have := (zs2_lt h1).1; omega) rfl (fun ls' h' => ?_)
    exact kk H locs ls' cells slots (zsame hrel (zlv_st2 rfl h1 rfl h') (zs2_lt h1).2) rfl rfl
  case iinc j v =>
    simp only [zstat, Bool.and_eq_true, decide_eq_true_eq, beq_iff_eq] at hst
    obtain ⟨hv, rfl⟩ := hst
    unfold zex at eq
    dsimp only at eq
    split at eq
    · next x hx =>
      obtain ⟨l', h1, rfl⟩ := Option.map_eq_some_iff.mp eq
      obtain ⟨q, hq⟩ := List.getElem?_of_mem ((zlv_mem (b := b) (sc := sc) ls 0 (j, .int (Int32.ofInt x))).mpr ⟨j, zI x, hx, rfl, by simp [zcv]⟩)
      refine lv_iinc (x := Int32.ofInt x) (v := Int32.ofInt (zw (x + v))) hex hb hd hrel.1 hq (zA_add x v) (by have := (zs1_lt h1).1; omega) rfl (fun ls' h' => ?_)
      exact kk H locs ls' cells slots (zsame hrel (zlv_st1 (v := zI (zw (x + v))) rfl h1 rfl h') (zs1_lt h1).2) rfl rfl
    · cases eq
  case getfield x =>
    simp only [zstat, beq_iff_eq] at hst
    subst hst
    obtain ⟨⟨ci, kf⟩, h1, h2⟩ := Option.bind_eq_some_iff.mp eq
    exact zW_get F2 hrel hi h1 hidx hd h2 kk
  case putfield x =>
    simp only [zstat, beq_iff_eq] at hst
    subst hst
    obtain ⟨⟨ci, kf⟩, h1, h2⟩ := Option.bind_eq_some_iff.mp eq
    exact zW_put F2 hrel hi h1 hidx (zpf_at hk hf h1) hd h2 kk
  case iaload =>
    simp only [zstat, beq_iff_eq] at hst
    subst hst
    unfold zex at eq
    dsimp only at eq
    split at eq
    · next hh =>
      cases eq
      exact zW_ald (i := .iaload) (kd := 20) (t0 := 0) (ty := .int) F2 hrel hi (by decide) rfl (fun q0 ha hin hkk => va_iald hex hb hK.1 hrel.2.2.1.2 q0 0 ha rfl hin hd hkk) hh kk
    · exact zW_sld F2 hrel hi hd eq kk
  case caload =>
    simp only [zstat, beq_iff_eq] at hst
    subst hst
    exact zW_ald (i := .caload) (kd := 21) (t0 := 1) (ty := .char) F2 hrel hi (by decide) rfl (fun q0 ha hin hkk => va_cald hex hb hK.1 hrel.2.2.1.2 q0 1 ha rfl hin hd hkk) eq kk
  case baload =>
    simp only [zstat, beq_iff_eq] at hst
    subst hst
    exact zW_ald (i := .baload) (kd := 22) (t0 := 2) (ty := .boolean) F2 hrel hi (by decide) rfl (fun q0 ha hin hkk => va_zald hex hb hK.1 hrel.2.2.1.2 q0 2 ha rfl hin hd hkk) eq kk
  case aaload =>
    simp only [zstat, beq_iff_eq] at hst
    subst hst
    exact zW_aal F2 hrel hi hd eq kk
  case iastore =>
    simp only [zstat, beq_iff_eq] at hst
    subst hst
    exact zW_ast (kd := 20) (t0 := 0) (ty := .int) F2 hrel hi hs (by decide) rfl (fun x _ _ => rfl) (fun h1 h2 h3 h4 h5 => W.iast hex hb h1 h2 h3 h4 rfl rfl hd h5) eq kk
  case castore =>
    simp only [zstat, beq_iff_eq] at hst
    subst hst
    refine zW_ast (kd := 21) (t0 := 1) (ty := .char) F2 hrel hi hs (by decide) rfl (fun x hx ho => ?_) (fun h1 h2 h3 h4 h5 => W.cast hex hb h1 h2 h3 h4 rfl rfl hd h5) eq kk
    simp only [decide_eq_true_eq] at ho
    have h5 := (pk_charN (q := x.toNat) (by omega)).1
    unfold nI at h5
    rw [show Int32.ofInt x = Int32.ofNat x.toNat by
      rw [← Int32.ofInt_eq_ofNat]; congr 1; omega]
    exact h5
  case bastore =>
    simp only [zstat, beq_iff_eq] at hst
    subst hst
    refine zW_ast (kd := 22) (t0 := 2) (ty := .boolean) F2 hrel hi hs (by decide) rfl (fun x hx ho => ?_) (fun h1 h2 h3 h4 h5 => W.zast hex hb h1 h2 h3 h4 rfl rfl hd h5) eq kk
    simp only [decide_eq_true_eq] at ho
    rcases ho with rfl | rfl <;> rfl
  case aastore =>
    simp only [zstat, beq_iff_eq] at hst
    subst hst
    exact zW_aas F2 hrel hi hd eq kk
  case arraylength =>
    simp only [zstat, beq_iff_eq] at hst
    subst hst
    exact zW_alen F2 hrel hi hd eq kk
  case dup =>
    simp only [zstat, beq_iff_eq] at hst
    subst hst
    unfold zex at eq
    dsimp only at eq
    split at eq
    · split at eq
      · next hh => cases eq; exact lv_dup hex hb hd (zc1_cat hh) (kS rfl)
      · cases eq
    · cases eq
  case dup2 =>
    simp only [zstat, beq_iff_eq] at hst
    subst hst
    unfold zex at eq
    dsimp only at eq
    split at eq
    · split at eq
      · next hh => cases eq; exact lv_dup2_11 hex hb hd (zc1_cat hh.1) (zc1_cat hh.2) (kS rfl)
      · cases eq
    · cases eq
  case pop =>
    simp only [zstat, beq_iff_eq] at hst
    subst hst
    unfold zex at eq
    dsimp only at eq
    split at eq
    · split at eq
      · next hh => cases eq; exact lv_pop hex hb hd (zc1_cat hh) (kS rfl)
      · cases eq
    · cases eq
  case iadd =>
    simp only [zstat, beq_iff_eq] at hst
    subst hst
    obtain ⟨x, y, v, st0, rfl, h1, rfl⟩ := zbi_some eq
    cases h1
    refine lv_iadd (x := Int32.ofInt x) (y := Int32.ofInt y) hex hb hd ?_
    rw [zA_add]
    exact kS rfl
  case isub =>
    simp only [zstat, beq_iff_eq] at hst
    subst hst
    obtain ⟨x, y, v, st0, rfl, h1, rfl⟩ := zbi_some eq
    cases h1
    refine lv_isub (x := Int32.ofInt x) (y := Int32.ofInt y) hex hb hd ?_
    rw [zA_sub]
    exact kS rfl
  case imul =>
    simp only [zstat, beq_iff_eq] at hst
    subst hst
    obtain ⟨x, y, v, st0, rfl, h1, rfl⟩ := zbi_some eq
    cases h1
    refine lv_imul (x := Int32.ofInt x) (y := Int32.ofInt y) hex hb hd ?_
    rw [zA_mul]
    exact kS rfl
  case idiv =>
    simp only [zstat, beq_iff_eq] at hst
    subst hst
    obtain ⟨x, y, v, st0, rfl, h1, rfl⟩ := zbi_some eq
    split at h1
    · cases h1
    · next hy =>
      cases h1
      have q1 := (zoks_c hs).1
      have q2 := (zoks_c (zoks_c hs).2).1
      refine lv_idiv (x := Int32.ofInt x) (y := Int32.ofInt y) hex hb hd (by rw [← zA_0, zA_eq q1 zrg_0]; exact hy) ?_
      rw [zA_div q2 q1]
      exact kS rfl
  case irem =>
    simp only [zstat, beq_iff_eq] at hst
    subst hst
    obtain ⟨x, y, v, st0, rfl, h1, rfl⟩ := zbi_some eq
    split at h1
    · cases h1
    · next hy =>
      cases h1
      have q1 := (zoks_c hs).1
      have q2 := (zoks_c (zoks_c hs).2).1
      refine lv_irem (x := Int32.ofInt x) (y := Int32.ofInt y) hex hb hd (by rw [← zA_0, zA_eq q1 zrg_0]; exact hy) ?_
      rw [zA_rem q2 q1]
      exact kS rfl
  case iand =>
    simp only [zstat, beq_iff_eq] at hst
    subst hst
    obtain ⟨x, y, v, st0, rfl, h1, rfl⟩ := zbi_some eq
    cases h1
    refine lv_iand (x := Int32.ofInt x) (y := Int32.ofInt y) hex hb hd ?_
    rw [← zA_i (Int32.ofInt x &&& Int32.ofInt y)]
    exact kS rfl
  case ior =>
    simp only [zstat, beq_iff_eq] at hst
    subst hst
    obtain ⟨x, y, v, st0, rfl, h1, rfl⟩ := zbi_some eq
    cases h1
    refine lv_ior (x := Int32.ofInt x) (y := Int32.ofInt y) hex hb hd ?_
    rw [← zA_i (Int32.ofInt x ||| Int32.ofInt y)]
    exact kS rfl
  case ixor =>
    simp only [zstat, beq_iff_eq] at hst
    subst hst
    obtain ⟨x, y, v, st0, rfl, h1, rfl⟩ := zbi_some eq
    cases h1
    refine lv_ixor (x := Int32.ofInt x) (y := Int32.ofInt y) hex hb hd ?_
    rw [← zA_i (Int32.ofInt x ^^^ Int32.ofInt y)]
    exact kS rfl
  case ishl =>
    simp only [zstat, beq_iff_eq] at hst
    subst hst
    obtain ⟨x, y, v, st0, rfl, h1, rfl⟩ := zbi_some eq
    cases h1
    refine lv_ishl (x := Int32.ofInt x) (y := Int32.ofInt y) hex hb hd ?_
    rw [← zA_i (Int32.ofInt x <<< (Int32.ofInt y &&& 31))]
    exact kS rfl
  case ishr =>
    simp only [zstat, beq_iff_eq] at hst
    subst hst
    obtain ⟨x, y, v, st0, rfl, h1, rfl⟩ := zbi_some eq
    cases h1
    refine lv_ishr (x := Int32.ofInt x) (y := Int32.ofInt y) hex hb hd ?_
    rw [← zA_i (Int32.ofInt x >>> (Int32.ofInt y &&& 31))]
    exact kS rfl
  case iushr =>
    simp only [zstat, beq_iff_eq] at hst
    subst hst
    obtain ⟨x, y, v, st0, rfl, h1, rfl⟩ := zbi_some eq
    cases h1
    refine lv_iushr (x := Int32.ofInt x) (y := Int32.ofInt y) hex hb hd rfl ?_
    rw [← zA_i (((Int32.ofInt x).toUInt32 >>> ((Int32.ofInt y).toUInt32 &&& Int32.toUInt32 31)).toInt32)]
    exact kS rfl
  case ineg =>
    simp only [zstat, beq_iff_eq] at hst
    subst hst
    unfold zex at eq
    dsimp only at eq
    split at eq
    · next x st0 =>
      cases eq
      refine lv_ineg (x := Int32.ofInt x) hex hb hd ?_
      rw [zA_neg]
      exact kS rfl
    · cases eq
  case i2c =>
    simp only [zstat, beq_iff_eq] at hst
    subst hst
    unfold zex at eq
    dsimp only at eq
    split at eq
    · next x st0 =>
      split at eq
      · next hh =>
        cases eq
        refine lv_i2c (x := Int32.ofInt x) (v := Int32.ofInt x) hex hb hd ?_ (kS rfl)
        rw [pk_char]
        have e1 : Int32.ofInt x = nI x.toNat := by
          unfold nI
          rw [← Int32.ofInt_eq_ofNat]; congr 1; omega
        rw [e1, pk_tn (by omega), Nat.mod_eq_of_lt (by omega)]
      · cases eq
    · cases eq
  case i2d =>
    simp only [zstat, beq_iff_eq] at hst
    subst hst
    unfold zex at eq
    dsimp only at eq
    split at eq
    · next x st0 =>
      cases eq
      exact lv_i2d (x := Int32.ofInt x) hex hb hd (kS rfl)
    · cases eq
  case d2l =>
    simp only [zstat, beq_iff_eq] at hst
    subst hst
    unfold zex at eq
    dsimp only at eq
    split at eq
    · next x st0 =>
      cases eq
      exact lv_d2l (x := x) hex hb hd (kS rfl)
    · cases eq
  case ladd =>
    simp only [zstat, beq_iff_eq] at hst
    subst hst
    obtain ⟨x, y, st0, rfl, rfl⟩ := zbl_some eq
    exact lv_ladd (x := x) (y := y) hex hb hd (kS rfl)
  case lor =>
    simp only [zstat, beq_iff_eq] at hst
    subst hst
    obtain ⟨x, y, st0, rfl, rfl⟩ := zbl_some eq
    exact lv_lor (x := x) (y := y) hex hb hd (kS rfl)
  case lcmp =>
    simp only [zstat, beq_iff_eq] at hst
    subst hst
    obtain ⟨x, y, st0, rfl, rfl⟩ := zbl_some eq
    refine W.lcmp (x := x) (y := y) hex hb hd ?_
    rw [← zA_i (lg_cmp x y)]
    exact kS rfl
  case lshl =>
    simp only [zstat, beq_iff_eq] at hst
    subst hst
    unfold zex at eq
    dsimp only at eq
    split at eq
    · next y x st0 =>
      cases eq
      exact lv_lshl (x := x) (y := Int32.ofInt y) hex hb hd rfl (kS rfl)
    · cases eq
  case dsub =>
    simp only [zstat, beq_iff_eq] at hst
    subst hst
    obtain ⟨x, y, v, st0, rfl, h1, rfl⟩ := zbd_some eq
    obtain ⟨h2, rfl⟩ := znan_some h1
    exact lv_dsub (x := x) (y := y) hex hb hd h2 (kS rfl)
  case dmul =>
    simp only [zstat, beq_iff_eq] at hst
    subst hst
    obtain ⟨x, y, v, st0, rfl, h1, rfl⟩ := zbd_some eq
    obtain ⟨h2, rfl⟩ := znan_some h1
    exact lv_dmul (x := x) (y := y) hex hb hd h2 (kS rfl)
  case ddiv =>
    simp only [zstat, beq_iff_eq] at hst
    subst hst
    obtain ⟨x, y, v, st0, rfl, h1, rfl⟩ := zbd_some eq
    obtain ⟨h2, rfl⟩ := znan_some h1
    exact lv_ddiv (x := x) (y := y) hex hb hd h2 (kS rfl)
  case dcmp cd =>
    simp only [zstat, beq_iff_eq] at hst
    subst hst
    obtain ⟨x, y, v, st0, rfl, h1, rfl⟩ := zbd_some eq
    cases h1
    refine lv_dcmp (x := x) (y := y) hex hb hd ?_
    rw [← zA_i (Op.cmpValue (FP.dcmp x y) cd)]
    exact kS rfl
  case ifCond cd off =>
    simp only [zstat, beq_iff_eq] at hst
    subst hst
    unfold zex at eq
    dsimp only at eq
    split at eq
    · next x st0 =>
      cases eq
      exact zW_if F2 (zoks_c hs).1 hd (hoff _ (by simp [zoff])) (kS rfl)
    · cases eq
  case if_icmp cd off =>
    simp only [zstat, beq_iff_eq] at hst
    subst hst
    unfold zex at eq
    dsimp only at eq
    split at eq
    · next y x st0 =>
      cases eq
      exact zW_icmp F2 (zoks_c (zoks_c hs).2).1 (zoks_c hs).1 hd (hoff _ (by simp [zoff])) (kS rfl)
    · cases eq
  case goto off =>
    simp only [zstat, beq_iff_eq] at hst
    subst hst
    cases eq
    exact lv_goto hex hb hd (zjmp_of (hoff _ (by simp [zoff]))) (kS rfl)
  case tableswitch d lo hi' offs =>
    unfold zex at eq
    dsimp only at eq
    split at eq
    · next x st0 =>
      have hx := (zoks_c hs).1
      split at eq
      · next hh =>
        cases eq
        exact lv_tableOut (x := Int32.ofInt x) hex hb hd (by rw [zt hx]; exact hh) (zjmp_of (hoff _ (by simp [zoff]))) (kS rfl)
      · next hh =>
        obtain ⟨f, h1, rfl⟩ := Option.map_eq_some_iff.mp eq
        exact lv_tableIn (x := Int32.ofInt x) hex hb hd (by rw [zt hx]; omega) (by rw [zt hx]; omega) (by rw [zt hx]; exact h1) (zjmp_of (hoff _ (List.mem_cons_of_mem _ (Array.mem_toList_iff.mpr (Array.mem_of_getElem? h1))))) (kS rfl)
    · cases eq
  case lookupswitch d ps =>
    unfold zex at eq
    dsimp only at eq
    split at eq
    · next x st0 =>
      have hx := (zoks_c hs).1
      cases eq
      refine lv_lookup (x := Int32.ofInt x) hex hb hd ?_ (by rw [zt hx]) (zjmp_of (hoff _ zoff_mem)) (kS rfl)
      simpa [zstat] using hst
    · cases eq
  case new x =>
    simp only [zstat, beq_iff_eq] at hst
    subst hst
    obtain ⟨ci, h1, h2⟩ := Option.bind_eq_some_iff.mp eq
    exact zW_new F2 hrel hi h1 hidx hd h2 hR kk
  case newarray t =>
    simp only [zstat, Bool.and_eq_true, decide_eq_true_eq, beq_iff_eq] at hst
    obtain ⟨rfl, ht⟩ := hst
    exact zW_nwa F2 hrel hi ht hd eq hR kk
  case anewarray x =>
    simp only [zstat, beq_iff_eq] at hst
    subst hst
    unfold zex at eq
    dsimp only at eq
    split at eq
    · next hh => exact zW_anew F2 hrel hi hidx hh hd eq hR kk
    · cases eq
  case multianewarray x d =>
    simp only [zstat, beq_iff_eq] at hst
    subst hst
    unfold zex at eq
    dsimp only at eq
    split at eq
    · next hh =>
      obtain ⟨hh, rfl⟩ := hh
      exact zW_mna F2 hrel hi hidx hh hd eq hR kk
    · cases eq
  case invokespecial x =>
    simp only [zstat, beq_iff_eq] at hst
    subst hst
    unfold zex at eq
    dsimp only at eq
    split at eq
    · next hh =>
      obtain ⟨hh, hcat⟩ := hh
      split at eq
      · next a st0 =>
        cases eq
        obtain ⟨ps, hp⟩ := zMl_at hh
        simp only [zMchk, zky_div (show x < 4096 from hidx), zky_mod (show x < 4096 from hidx), Bool.and_eq_true] at hp
        have ho := zObj_ok
        simp only [Bool.and_eq_true] at ho
        refine W.objInit (rest := st0.map (zcv b sc)) hex hb hown (hts _ (zpos_in hp.2)) (hts _ (zwk_of (by decide +kernel))) (hts _ (zwk_of (by decide +kernel))) rfl (by rw [hml, hrel.1.1]) rfl hd hfr ?_ (kS rfl)
        rw [zcats]
        rw [List.map_cons, List.sum_cons] at hcat
        show 2 * 0 + _ + 12 ≤ _
        omega
      · cases eq
    · cases eq
  case invokestatic x =>
    simp only [zstat, beq_iff_eq] at hst
    subst hst
    obtain ⟨⟨k', kd⟩, h1, h2⟩ := Option.bind_eq_some_iff.mp eq
    split at h2
    · next hcat =>
      obtain ⟨ps, hp⟩ := zMl_at h1
      have h2 : znat kd (pc + 3) ls st h = some r := h2
      unfold znat at h2
      split at h2
      · split at h2
        · next v st0 =>
          cases h2
          simp only [zMchk, zky_div (show x < 4096 from hidx), zky_mod (show x < 4096 from hidx), Bool.and_eq_true] at hp
          refine vn_d2l hex hb hsz hown (hts _ (zpos_in hp.2)) (hts _ (zwk_of (w := .native zRaw) (by decide +kernel))) (hts _ (zwk_of (w := .static zRaw) (by decide +kernel))) (hts _ (zwk_of (by decide +kernel))) hfr ?_ hd (kS rfl)
          rw [zcats]
          rw [List.map_cons, List.sum_cons] at hcat
          omega
        · cases h2
      · split at h2
        · next v st0 _ =>
          cases h2
          simp only [zMchk, zky_div (show x < 4096 from hidx), zky_mod (show x < 4096 from hidx), Bool.and_eq_true] at hp
          refine va_mabs (x := Int32.ofInt v) hex hb hsz hown (hts _ (zpos_in hp.2)) (hts _ (zwk_of (by decide +kernel))) (hts _ (zwk_of (by decide +kernel))) (hts _ (zwk_of (by decide +kernel))) hfr ?_ hR0.1 hR0.2 hd ?_
          · rw [zcats]
            rw [List.map_cons, List.sum_cons] at hcat
            omega
          · have hv := (zoks_c hs).1
            have e1 : (if 0 ≤ Int32.ofInt v then Int32.ofInt v else 0 - Int32.ofInt v) = Int32.ofInt (if 0 ≤ v then v else zw (0 - v)) := by
              by_cases q : 0 ≤ v
              · rw [if_pos q, if_pos (by rw [← zA_0, zA_le zrg_0 hv]; exact q)]
              · rw [if_neg q, if_neg (by rw [← zA_0, zA_le zrg_0 hv]; exact q), ← zA_0, zA_sub]
            rw [e1]
            exact kS rfl
        · cases h2
      · split at h2
        · next y v st0 _ =>
          cases h2
          simp only [zMchk, zky_div (show x < 4096 from hidx), zky_mod (show x < 4096 from hidx), Bool.and_eq_true] at hp
          refine va_mmax (x := Int32.ofInt v) (y := Int32.ofInt y) hex hb hsz hown (hts _ (zpos_in hp.2)) (hts _ (zwk_of (by decide +kernel))) (hts _ (zwk_of (by decide +kernel))) (hts _ (zwk_of (by decide +kernel))) hfr ?_ hR0.1 hR0.2 hd ?_
          · rw [zcats]
            rw [List.map_cons, List.sum_cons, List.map_cons, List.sum_cons] at hcat
            omega
          · have hy := (zoks_c hs).1
            have hv := (zoks_c (zoks_c hs).2).1
            have e1 : (if Int32.ofInt v < Int32.ofInt y then Int32.ofInt y else Int32.ofInt v) = Int32.ofInt (if v < y then y else v) := by
              by_cases q : v < y
              · rw [if_pos q, if_pos (by rw [zA_lt hv hy]; exact q)]
              · rw [if_neg q, if_neg (by rw [zA_lt hv hy]; exact q)]
            rw [e1]
            exact kS rfl
        · cases h2
      · split at h2
        · next y v st0 _ =>
          cases h2
          simp only [zMchk, zky_div (show x < 4096 from hidx), zky_mod (show x < 4096 from hidx), Bool.and_eq_true] at hp
          refine va_mmin (x := Int32.ofInt v) (y := Int32.ofInt y) hex hb hsz hown (hts _ (zpos_in hp.2)) (hts _ (zwk_of (by decide +kernel))) (hts _ (zwk_of (by decide +kernel))) (hts _ (zwk_of (by decide +kernel))) hfr ?_ hR0.1 hR0.2 hd ?_
          · rw [zcats]
            rw [List.map_cons, List.sum_cons, List.map_cons, List.sum_cons] at hcat
            omega
          · have hy := (zoks_c hs).1
            have hv := (zoks_c (zoks_c hs).2).1
            have e1 : (if Int32.ofInt y < Int32.ofInt v then Int32.ofInt y else Int32.ofInt v) = Int32.ofInt (if y < v then y else v) := by
              by_cases q : y < v
              · rw [if_pos q, if_pos (by rw [zA_lt hy hv]; exact q)]
              · rw [if_neg q, if_neg (by rw [zA_lt hy hv]; exact q)]
            rw [e1]
            exact kS rfl
        · cases h2
      · cases h2
    · cases h2
  all_goals cases eq
