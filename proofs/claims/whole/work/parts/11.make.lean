/-! new objects and arrays -/
theorem zwk_of {w : Jvm.Cond} (h : zin w = true) : w ∈ zWs := zWs_of h
theorem zout (c : ClassId) (N h0 : Nat) : ∀ i, Jvm.Free.Multi.outerC c N h0 i = arrV c N (fun j => if j < i then .ref (h0 + 1 + j) else .null)
  | 0 => by
    show ({ cls := c, slots := Array.replicate N .null, vm := .none } : Cell) = _
    rw [arrV_new]
    simp
  | i + 1 => by
    show (Jvm.Free.Multi.outerC c N h0 i).setSlot i (.ref (h0 + 1 + i)) = _
    rw [zout c N h0 i, arrV_store]
    congr 1
    funext j
    unfold updV
    by_cases h1 : j = i
    · rw [if_pos h1, if_pos (by omega), h1]
    · rw [if_neg h1]
      show (if j < i then Value.ref (h0 + 1 + j) else Value.null) = _
      by_cases h2 : j < i
      · rw [if_pos h2, if_pos (by omega)]
      · rw [if_neg h2, if_neg (by omega)]
theorem zad_lt {b sc a : Nat} (h : a < 1000000) : zad b sc a = b + a := by
  unfold zad
  rw [if_neg (fun q => by unfold zSC at q; omega)]
theorem ztot_app (s t : ZS) : ztot (s ++ t) = ztot s + ztot t := by unfold ztot; rw [List.map_append, List.sum_append]
theorem ztot_rep (n : Nat) (c : Nat × Nat × List Nat) : ztot (List.replicate n c) = n * c.2.1 := by unfold ztot; rw [List.map_replicate, List.sum_replicate_nat]
section
variable {p : Program} {l : Launch} {e : Env} {R : Room} {s : State} {m : MethodId} {args : Array Value} {below : List Frame} {meth : Method} {c : Code} {Q : State → Prop} {b sc : Nat} {D : va_G} {cA : Nat → ClassId} {k cells slots : Nat} {H : Heap} {locs : List Loc} {lsA : Array Slot} {pc : Nat} {ls st : List ZV} {h : ZH} {r : Nat × List ZV × List ZV × ZH}
theorem zzr_in {M : ZM} {a n j : Nat} (h1 : a ≤ j) (h2 : j ≤ a + n) : zzr M a n j = fun _ => 0 := by
  funext y
  unfold zzr
  rw [if_pos ⟨h1, h2⟩]
theorem zX_app {t : ZS} {n : Nat} {H1 : Heap} (hrel : zRel b sc D cA s k ls h H locs lsA) (hi : zinv h) (hn : h.1.length + n ≤ 4000) (hq : ∀ q : Nat, q < H.size → H1[q]? = H[q]?) : zX sc (h.1 ++ t, zzr h.2 h.1.length n) s H1 := by
  obtain ⟨g1, g2, ⟨g3, g4⟩, g5, g6, g7, g8⟩ := hrel
  refine zX_kept g8 (hq sc (by omega)) (fun j => ?_)
  show zzr h.2 h.1.length n zSC j = _
  unfold zzr
  rw [if_neg (fun q => by have := q.2; unfold zSC at this; omega)]
theorem zW_new (F : zFr p R s m args meth c D cA k) (hrel : zRel b sc D cA s k ls h H locs lsA) (hi : zinv h) {x ci : Nat} (hlk : zNl.lookup (zky (zown k) x) = some ci) (hx : x < 4096) (hd : decode (zm k).2.2.1 pc = .ok (.new x, 3)) (eq : znew ci (pc + 3) ls st h = some r) (hR : cells + r.2.2.2.1.length ≤ R.cells + h.1.length ∧ slots + ztot r.2.2.2.1 ≤ R.slots + ztot h.1) (kk : zKK p l e R s m args below meth c Q b sc D cA k cells slots h r) : W p l e R s m args below meth c H locs cells slots Q (F0 m pc lsA (st.map (zcv b sc))) := by
  obtain ⟨hex, hb, hml, hown, hts, hK, -⟩ := F
  have hci := zNl_ok hlk
  have hw := List.all_eq_true.mp zNl_w _ (zlook_mem hlk)
  simp only [zky_div hx, zky_mod hx, Bool.and_eq_true] at hw
  unfold znew at eq
  split at eq
  · cases eq
  · next hlen =>
    cases eq
    have hN : (zFk.getD ci []).length = zN ci := zN_len hci
    have h1 : cells + 1 ≤ R.cells ∧ slots + zN ci ≤ R.slots := by
      have q1 := hR.1
      have q2 := hR.2
      simp only [List.length_append, List.length_singleton, ztot_app] at q1 q2
      have e1 : ztot [(ci, (zFk.getD ci []).length, List.replicate (zFk.getD ci []).length 0)] = zN ci := by
        show (zFk.getD ci []).length + 0 = zN ci
        omega
      rw [e1] at q2
      omega
    have hKn := hK.1.1 ci _ (zCl_at hci)
    refine W.newcK hex hb hown (hts _ (zwk_of hw.1.1)) (hts _ (zwk_of hw.1.2)) (hts _ (zwk_of hw.2)) rfl hd h1.1 h1.2 hKn.2.1 hrel.2.2.1.1 fun H1 kC hkC e1 z1 o1 => ?_
    have hrel2 := hrel
    obtain ⟨g1, g2, ⟨g3, g4⟩, g5, g6, g7, g8⟩ := hrel
    have o2 : ∀ q : Nat, q < H.size → H1[q]? = H[q]? := fun q hq => o1 q (by omega)
    have hL : zad b sc h.1.length = b + h.1.length := zad_lt (by have := hi.2.2; omega)
    have := kk H1 locs lsA (cells + 1) (slots + zN ci) ⟨g1, g2, ⟨by rw [z1]; simp; omega, ?_⟩, fun q hq => by rw [o2 q (by omega)]; exact g5 q hq, g6, g7, zX_app hrel2 hi (by have := hi.2.2; omega) o2⟩ (by rw [List.length_append, List.length_singleton]; omega) (by rw [ztot_app]; show slots + zN ci + ztot h.1 = slots + (ztot h.1 + ((zFk.getD ci []).length + 0)); omega)
    · rw [← hL]
      exact this
    · refine zP_app g4 g3 o2 fun j hj => ?_
      have hj0 : j = 0 := by simpa using hj
      subst hj0
      rw [zzr_in (by omega) (by omega)]
      have e3 : zce b sc cA (List.getD [(ci, (zFk.getD ci []).length, List.replicate (zFk.getD ci []).length 0)] 0 (99, 0, [])) (fun _ => 0) = .inr (ci, (List.range (zFk.getD ci []).length).map (zfv b sc ci (List.replicate (zFk.getD ci []).length 0) (fun _ => 0))) := by
        unfold zce
        rw [show (List.getD [(ci, (zFk.getD ci []).length, List.replicate (zFk.getD ci []).length 0)] 0 (99, 0, [])) = (ci, (zFk.getD ci []).length, List.replicate (zFk.getD ci []).length 0) from rfl]
        rw [if_pos (by show ci < 20; omega)]
      rw [e3]
      refine ⟨_, zCl_at hci, ?_⟩
      show t_OB (b + (h.1.length + 0)) _ _ _ H1 _
      rw [show b + (h.1.length + 0) = b + h.1.length by omega]
      refine (u_born (ztyp ci) hts (zu_in hci) hKn hkC e1 (ztyp_ok hci)).to fun j hj => ?_
      unfold vp_V
      have e2 : ((List.range (zFk.getD ci []).length).map (zfv b sc ci (List.replicate (zFk.getD ci []).length 0) (fun _ => 0))).getD j .null = zfv b sc ci (List.replicate (zFk.getD ci []).length 0) (fun _ => 0) j := by
        rw [List.getD_eq_getElem?_getD, List.getElem?_map, List.getElem?_range (by rw [hN]; exact hj)]; rfl
      refine Eq.trans ?_ e2.symm
      obtain ⟨t1, t2, t3, t4⟩ := ztyp_k hci j hj
      unfold zfv
      by_cases h2 : zfk ci j = 2
      · rw [if_pos h2]
        have h5 := t4 h2
        rw [show (List.replicate (zFk.getD ci []).length 0).getD j 0 = 0 by rw [List.getD_eq_getElem?_getD, List.getElem?_replicate]; split <;> rfl]
        revert h5
        cases ztyp ci j <;> first | (intro; rfl) | (intro q; cases q)
      · rw [if_neg h2]
        have h5 : zfk ci j = 0 ∨ zfk ci j = 1 := by omega
        rcases h5 with q | q
        · rw [t2 q]; rfl
        · rw [t3 q]; rfl

/-- behind a new array: its cell at the heap's end, everything else as it was -/
theorem zW_arr {kd N : Nat} (hkd : 20 ≤ kd ∧ kd < 24) (hrel : zRel b sc D cA s k ls h H locs lsA) (hi : zinv h) {pc' : Nat} {H1 : Heap}
    (e1 : H1[H.size]? = some (arrV (cA kd) N (fun _ => if kd < 23 then .int 0 else .null))) (z1 : H1.size = H.size + 1) (o1 : ∀ q : Nat, q < H.size → H1[q]? = H[q]?)
    (kk : zKK p l e R s m args below meth c Q b sc D cA k cells slots h (pc', ls, zR h.1.length :: st, (h.1 ++ [(kd, N, List.replicate N 0)], zzr h.2 h.1.length 0))) : W p l e R s m args below meth c H1 locs (cells + 1) (slots + N) Q (F0 m pc' lsA (.ref H.size :: st.map (zcv b sc))) := by
  have hrel2 := hrel
  obtain ⟨g1, g2, ⟨g3, g4⟩, g5, g6, g7, g8⟩ := hrel
  have hL : zad b sc h.1.length = b + h.1.length := zad_lt (by have := hi.2.2; omega)
  have := kk H1 locs lsA (cells + 1) (slots + N) ⟨g1, g2, ⟨by rw [z1]; simp; omega, ?_⟩, fun q hq => by rw [o1 q (by omega)]; exact g5 q hq, g6, g7, zX_app hrel2 hi (by have := hi.2.2; omega) o1⟩ (by rw [List.length_append, List.length_singleton]; omega) (by rw [ztot_app]; show slots + N + ztot h.1 = slots + (ztot h.1 + (N + 0)); omega)
  · rw [g3, ← hL]
    exact this
  · refine zP_app g4 g3 o1 fun j hj => ?_
    have hj0 : j = 0 := by simpa using hj
    subst hj0
    rw [zzr_in (by omega) (by omega)]
    have e3 : List.getD [(kd, N, List.replicate N 0)] 0 (99, 0, []) = (kd, N, List.replicate N 0) := rfl
    rw [e3]
    by_cases h23 : kd < 23
    · rw [zce_arr (kd := kd) rfl hkd.1 h23]
      show H1[b + (h.1.length + 0)]? = some (arrV (cA kd) N (fun _ => .int (Int32.ofInt 0)))
      rw [show b + (h.1.length + 0) = H.size by omega, e1, if_pos h23]
      rfl
    · rw [zce_ref (kd := kd) rfl (by omega)]
      show H1[b + (h.1.length + 0)]? = some (arrV (cA kd) N (fun j => va_rf (zro b sc ((List.replicate N 0).getD j 0))))
      rw [show b + (h.1.length + 0) = H.size by omega, e1, if_neg h23]
      congr 2
      funext j
      rw [show (List.replicate N 0).getD j 0 = 0 by rw [List.getD_eq_getElem?_getD, List.getElem?_replicate]; split <;> rfl]
      rfl
theorem zA_len {x : Int} (h0 : 0 ≤ x) (h1 : x ≤ 1000) : ¬ Int32.ofInt x < 0 ∧ (Int32.ofInt x).toNatClampNeg = x.toNat := by
  obtain ⟨v1, v2⟩ := zA_in (i := x) (n := 1001) h0 (by omega) (by omega)
  exact ⟨fun q => v1 (Or.inl q), v2⟩
theorem zW_nwa (F : zFr p R s m args meth c D cA k) (hrel : zRel b sc D cA s k ls h H locs lsA) (hi : zinv h) {t : ArrayType} (ht : zatk t < 99) (hd : decode (zm k).2.2.1 pc = .ok (.newarray t, 2)) (eq : znwa (zatk t) (pc + 2) ls st h = some r) (hR : cells + r.2.2.2.1.length ≤ R.cells + h.1.length ∧ slots + ztot r.2.2.2.1 ≤ R.slots + ztot h.1) (kk : zKK p l e R s m args below meth c Q b sc D cA k cells slots h r) : W p l e R s m args below meth c H locs cells slots Q (F0 m pc lsA (st.map (zcv b sc))) := by
  obtain ⟨hex, hb, hml, hown, hts, hK, -⟩ := F
  unfold znwa at eq
  split at eq
  · next x st =>
    split at eq
    · next hx =>
      cases eq
      obtain ⟨v1, v2⟩ := zA_len hx.1.1 hx.1.2
      have hR1 : cells + 1 ≤ R.cells ∧ slots + x.toNat ≤ R.slots := by
        have q1 := hR.1
        have q2 := hR.2
        simp only [List.length_append, List.length_singleton, ztot_app] at q1 q2
        have e1 : ztot [(zatk t, x.toNat, List.replicate x.toNat 0)] = x.toNat := by
          show x.toNat + 0 = x.toNat
          omega
        rw [e1] at q2
        omega
      have hts' := hts
      show W p l e R s m args below meth c H locs cells slots Q (F0 m pc lsA (.int (Int32.ofInt x) :: st.map (zcv b sc)))
      have key : ∀ (kd t0 : Nat) (ty : FieldType), zatk t = kd → 20 ≤ kd ∧ kd < 23 → newarray.typeOf t = ty → defaultValue ty = .int 0 → componentBytes ty ≤ 4 → (zTy cA)[t0]? = some (cA kd, ty) → (∀ C, ty ≠ .object C) → Cond.arrayClass ty ∈ zWs → W p l e R s m args below meth c H locs cells slots Q (F0 m pc lsA (.int (Int32.ofInt x) :: st.map (zcv b sc))) := by
        intro kd t0 ty hkk h20 htt hdf hcb hty hno hwd
        refine va_newaK hex hb (hts _ (by rw [htt]; exact hwd)) rfl hd rfl v1 v2 (by rw [htt]; exact Nat.le_trans (Nat.mul_le_mul (show x.toNat ≤ 1000 by omega) hcb) (by decide)) hR1.1 hR1.2 rfl fun H1 cA' e1 z1 o1 hAr hNm => ?_
        rw [htt] at e1 hNm
        have hcc : cA' = cA kd := by
          have h5 := (zty_at hty hK).2
          unfold va_RA at h5
          split at h5
          · exact absurd rfl (hno _)
          · exact Option.some.inj (hNm.symm.trans h5)
        subst hcc
        refine zW_arr (kd := kd) ⟨h20.1, by omega⟩ hrel hi (by rw [e1, hdf, if_pos h20.2]) z1 o1 ?_
        rw [← hkk]
        exact kk
      have ho := zObj_ok
      simp only [Bool.and_eq_true] at ho
      cases t
      case int => exact key 20 0 .int rfl (by decide) rfl rfl (by decide) rfl (fun C q => by cases q) (zwk_of (by decide +kernel))
      case char => exact key 21 1 .char rfl (by decide) rfl rfl (by decide) rfl (fun C q => by cases q) (zwk_of (by decide +kernel))
      case boolean => exact key 22 2 .boolean rfl (by decide) rfl rfl (by decide) rfl (fun C q => by cases q) (zwk_of (by decide +kernel))
      all_goals exact absurd ht (by decide)
    · cases eq
  · cases eq
theorem zW_anew (F : zFr p R s m args meth c D cA k) (hrel : zRel b sc D cA s k ls h H locs lsA) (hi : zinv h) {x : Nat} (hx : x < 4096) (ho : zky (zown k) x = 16395) (hd : decode (zm k).2.2.1 pc = .ok (.anewarray x, 3)) (eq : znwa 23 (pc + 3) ls st h = some r) (hR : cells + r.2.2.2.1.length ≤ R.cells + h.1.length ∧ slots + ztot r.2.2.2.1 ≤ R.slots + ztot h.1) (kk : zKK p l e R s m args below meth c Q b sc D cA k cells slots h r) : W p l e R s m args below meth c H locs cells slots Q (F0 m pc lsA (st.map (zcv b sc))) := by
  obtain ⟨hex, hb, hml, hown, hts, hK, -⟩ := F
  have ho1 : zown k = 4 ∧ x = 11 := by unfold zky at ho; omega
  obtain ⟨ho1, rfl⟩ := ho1
  rw [ho1] at hown
  have haw := zAn_ok
  simp only [Bool.and_eq_true] at haw
  unfold znwa at eq
  split at eq
  · next x st =>
    split at eq
    · next hx =>
      cases eq
      obtain ⟨v1, v2⟩ := zA_len hx.1.1 hx.1.2
      have hR1 : cells + 1 ≤ R.cells ∧ slots + x.toNat ≤ R.slots := by
        have q1 := hR.1
        have q2 := hR.2
        simp only [List.length_append, List.length_singleton, ztot_app] at q1 q2
        have e1 : ztot [(23, x.toNat, List.replicate x.toNat 0)] = x.toNat := by
          show x.toNat + 0 = x.toNat
          omega
        rw [e1] at q2
        omega
      show W p l e R s m args below meth c H locs cells slots Q (F0 m pc lsA (.int (Int32.ofInt x) :: st.map (zcv b sc)))
      refine W.anew hex hb hown (hts _ (zwk_of haw.1.1.1)) (va_AO.use hK.2.2.1) rfl hd rfl v1 (by rw [v2]; omega) hR1.1 (by rw [v2]; exact hR1.2) fun cA' kA comp f1 f2 f3 f4 => ?_
      have hcc : cA' = cA 23 := by
        obtain ⟨kA', comp', r1, r2, r3, r4⟩ := (zty_at (cA := cA) (kd := 23) (t0 := 3) rfl hK).2
        exact Option.some.inj (f1.symm.trans r4)
      subst hcc
      rw [v2]
      refine zW_arr (kd := 23) (by decide) hrel hi ?_ (by simp) (fun q hq => by rw [Array.getElem?_push, if_neg (Nat.ne_of_lt hq)]) kk
      rw [Array.getElem?_push_size, ← arrV_new]
      rfl
    · cases eq
  · cases eq

theorem zcons_get {α : Type} (a : α) (t : List α) (j : Nat) (d : α) : (a :: t).getD j d = if j = 0 then a else t.getD (j - 1) d := by
  cases j with
  | zero => rfl
  | succ j => rfl
theorem zrep_get {α : Type} (a : α) {n j : Nat} (d : α) (h : j < n) : (List.replicate n a).getD j d = a := by
  rw [List.getD_eq_getElem?_getD, List.getElem?_replicate, if_pos h]; rfl
theorem zW_mna (F : zFr p R s m args meth c D cA k) (hrel : zRel b sc D cA s k ls h H locs lsA) (hi : zinv h) {x : Nat} (hx : x < 4096) (ho : zky (zown k) x = 28693) (hd : decode (zm k).2.2.1 pc = .ok (.multianewarray x 2, 4)) (eq : zmna (pc + 4) ls st h = some r) (hR : cells + r.2.2.2.1.length ≤ R.cells + h.1.length ∧ slots + ztot r.2.2.2.1 ≤ R.slots + ztot h.1) (kk : zKK p l e R s m args below meth c Q b sc D cA k cells slots h r) : W p l e R s m args below meth c H locs cells slots Q (F0 m pc lsA (st.map (zcv b sc))) := by
  obtain ⟨hex, hb, hml, hown, hts, hK, -⟩ := F
  have ho1 : zown k = 7 ∧ x = 21 := by unfold zky at ho; omega
  obtain ⟨ho1, rfl⟩ := ho1
  rw [ho1] at hown
  have haw := zAn_ok
  simp only [Bool.and_eq_true] at haw
  unfold zmna at eq
  split at eq
  · next y x st =>
    split at eq
    · next hx =>
      cases eq
      obtain ⟨hy, hxx, hlen⟩ := hx
      obtain ⟨v1, v2⟩ := zA_len hy.1 hy.2
      obtain ⟨w1, w2⟩ := zA_len hxx.1 (show x ≤ 1000 by omega)
      have hT : ztot ((24, x.toNat, (List.range x.toNat).map (fun i => h.1.length + 1 + i + 1)) :: List.replicate x.toNat (20, y.toNat, List.replicate y.toNat 0)) = x.toNat + x.toNat * y.toNat := by
        have := ztot_rep x.toNat (20, y.toNat, List.replicate y.toNat 0)
        unfold ztot at this ⊢
        rw [List.map_cons, List.sum_cons, this]
      have hR1 : cells + (1 + x.toNat) ≤ R.cells ∧ slots + (x.toNat + x.toNat * y.toNat) ≤ R.slots := by
        have q1 := hR.1
        have q2 := hR.2
        simp only [List.length_append, List.length_cons, List.length_replicate, ztot_app] at q1 q2
        rw [hT] at q2
        omega
      show W p l e R s m args below meth c H locs cells slots Q (F0 m pc lsA (.int (Int32.ofInt y) :: .int (Int32.ofInt x) :: st.map (zcv b sc)))
      intro T hTH Xs
      obtain ⟨vm₁, cA', comp, -, fA, fC, hO, -, X', step⟩ := Xs.multianewarray2F hex (ty := .int) hown (hts _ (zwk_of haw.1.1.2)) hK.2.2.2 (hts _ (zwk_of (by decide +kernel))) (g := F0 m pc lsA (.int (Int32.ofInt y) :: .int (Int32.ofInt x) :: st.map (zcv b sc))) rfl (by rw [hb]; exact hd) rfl w1 v1 (by rw [w2]; omega) (by rw [v2]; show y.toNat * 4 ≤ _; omega) (by rw [v2]; omega) rfl rfl (by rw [w2]; exact hR1.1) (by rw [w2, v2]; exact hR1.2)
      have hc1 : comp = cA 20 := by
        have h5 := (zty_at (cA := cA) (kd := 20) (t0 := 0) rfl hK).2
        exact Option.some.inj (fC.symm.trans h5)
      have hc2 : cA' = cA 24 := by
        have h5 := (zty_at (cA := cA) (kd := 24) (t0 := 4) rfl hK).2
        exact Option.some.inj (fA.symm.trans h5)
      subst hc1
      subst hc2
      rw [w2, v2] at X' step
      have hTh : (T.setVm vm₁).heap = H := hTH
      obtain ⟨f1, f2, -, -⟩ := Jvm.Free.Multi.fill_facts (T.setVm vm₁) (cA 24) (cA 20) x.toNat y.toNat (defaultValue .int) x.toNat
      have f3 := fun (q : Nat) (hq : q < H.size) => Jvm.Free.Multi.fill_old (T.setVm vm₁) (cA 24) (cA 20) x.toNat y.toNat (defaultValue .int) (a := q) (by rw [hTh]; exact hq) x.toNat
      have f4 := fun (j : Nat) (hj : j < x.toNat) => Jvm.Free.Multi.fill_inner (T.setVm vm₁) (cA 24) (cA 20) x.toNat y.toNat (defaultValue .int) x.toNat j hj
      generalize Jvm.Free.Multi.fill (T.setVm vm₁) (cA 24) (cA 20) x.toNat y.toNat (defaultValue .int) x.toNat = Fs at X' step f1 f2 f3 f4
      rw [hTh] at f1 f2
      have f3 : ∀ q : Nat, q < H.size → Fs.heap[q]? = H[q]? := fun q hq => by rw [f3 q hq, hTh]
      have f4 : ∀ j : Nat, j < x.toNat → Fs.heap[H.size + 1 + j]? = some (arrV (cA 20) y.toNat (fun _ => .int 0)) := fun j hj => by
        have := f4 j hj
        rw [hTh] at this
        rw [this, ← arrV_new]
        rfl
      rw [zout] at f2
      have hrel2 := hrel
      obtain ⟨g1, g2, ⟨g3, g4⟩, g5, g6, g7, g8⟩ := hrel
      have hL : zad b sc h.1.length = b + h.1.length := zad_lt (by have := hi.2.2; omega)
      have := kk Fs.heap locs lsA (cells + 1 + x.toNat) (slots + x.toNat + x.toNat * y.toNat) ⟨g1, g2, ⟨by rw [f1]; simp; omega, ?_⟩, fun q hq => by rw [f3 q (by omega)]; exact g5 q hq, g6, g7, zX_app hrel2 hi (by have := hi.2.2; omega) f3⟩ (by rw [List.length_append, List.length_cons, List.length_replicate]; omega) (by rw [ztot_app, hT]; omega)
      · obtain ⟨t, a1, b1⟩ := this Fs rfl X'
        refine ⟨t, step t ?_, b1⟩
        have e5 : (T.heap.size : Nat) = zad b sc h.1.length := by rw [hTH, hL, g3]
        rw [e5]
        exact a1
      · refine zP_app g4 g3 f3 fun j hj => ?_
        rw [List.length_cons, List.length_replicate] at hj
        rw [zzr_in (by omega) (by omega), zcons_get]
        by_cases hj0 : j = 0
        · subst hj0
          rw [if_pos rfl, zce_ref (kd := 24) rfl (by decide)]
          show Fs.heap[b + (h.1.length + 0)]? = some (arrV (cA 24) x.toNat (fun j => va_rf (zro b sc (((List.range x.toNat).map (fun i => h.1.length + 1 + i + 1)).getD j 0))))
          rw [show b + (h.1.length + 0) = H.size by omega, f2]
          congr 2
          funext i
          by_cases hix : i < x.toNat
          · rw [if_pos hix, List.getD_eq_getElem?_getD, List.getElem?_map, List.getElem?_range hix]
            show Value.ref (H.size + 1 + i) = .ref (zad b sc (h.1.length + 1 + i))
            rw [zad_lt (by have := hi.2.2; omega), show b + (h.1.length + 1 + i) = H.size + 1 + i by omega]
          · rw [if_neg hix, List.getD_eq_getElem?_getD, List.getElem?_map, List.getElem?_eq_none (by rw [List.length_range]; omega)]
            rfl
        · rw [if_neg hj0, zrep_get _ _ (by omega), zce_arr (kd := 20) rfl (by decide) (by decide)]
          show Fs.heap[b + (h.1.length + j)]? = some (arrV (cA 20) y.toNat (fun _ => .int (Int32.ofInt 0)))
          rw [show b + (h.1.length + j) = H.size + 1 + (j - 1) by omega, f4 (j - 1) (by omega)]
          rfl
    · cases eq
  · cases eq
end
