/-! a run that ends is a run of the machine; a method that ends is a contract -/
theorem zrn_W {p : Program} {l : Launch} {e : Env} {R : Room} {s : State} {m : MethodId} {args : Array Value} {below : List Frame} {meth : Method} {c : Code} {Q : State → Prop} {b sc : Nat} {D : va_G} {cA : Nat → ClassId} {k d cF sF : Nat} {cal : Nat → List ZV → ZH → ZO} {v : Option ZV} {h1 : ZH} (hS : zSnd l d cal) (hkp : zkeep cal) (hk : k < 256) (F : zFr p R s m args meth c D cA k) (hRf : d + 1 ≤ R.frames ∧ 60 * d + 60 ≤ R.locals) (hcF : cF ≤ R.cells) (hsF : sF ≤ R.slots)
    (hret : ∀ (H' : Heap) (locs' : List Loc) (lsA' : Array Slot) (pc' n' : Nat) (i' : Instr) (ls' st' : List ZV), zft k pc' = some (n', i') → zret k i' st' = some v → zRel b sc D cA s k ls' h1 H' locs' lsA' → zGo p l e R s m args below meth c Q b sc cF sF H' locs' lsA' pc' st') :
    ∀ (n pc : Nat) (ls st : List ZV) (h : ZH) (H : Heap) (locs : List Loc) (lsA : Array Slot) (cells slots : Nat), zrn cal k n pc ls st h = some (v, h1) → zRel b sc D cA s k ls h H locs lsA → zoks ls → zoks st → zinv h → cells + h1.1.length = cF + h.1.length → slots + ztot h1.1 = sF + ztot h.1 → zGo p l e R s m args below meth c Q b sc cells slots H locs lsA pc st
  | 0, _, _, _, _, _, _, _, _, _, eq, _, _, _, _, _, _ => by cases eq
  | n + 1, pc, ls, st, h, H, locs, lsA, cells, slots, eq, hrel, hl, hs, hi, hc1, hc2 => by
    have eq : zgo cal k (zrn cal k n) pc ls st h = some (v, h1) := eq
    unfold zgo at eq
    split at eq
    · cases eq
    · next len i hf =>
      split at eq
      · next v' hr =>
        cases eq
        have e1 : cells = cF := by omega
        have e2 : slots = sF := by omega
        subst e1; subst e2
        exact hret H locs lsA pc len i ls st hf hr hrel
      · split at eq
        · next k' kd hcal =>
          split at eq
          · next hcond =>
            obtain ⟨c1, c2, c3⟩ := hcond
            obtain ⟨⟨v', h'⟩, q1, q2⟩ := Option.bind_eq_some_iff.mp eq
            have q2 : zrn cal k n (pc + len) ls (v'.toList ++ st.drop (znA k')) h' = some (v, h1) := q2
            obtain ⟨a1, a2, a3⟩ := hkp _ _ _ _ _ (zoks_take hs _) hi q1
            obtain ⟨b1, b2, b3⟩ := zrn_keep hkp n _ _ _ _ _ _ hl (zoks_v a1 (zoks_drop hs _)) a2 q2
            have l1 := a3.1
            have l2 := a3.2.1
            have l3 := b3.1
            have l4 := b3.2.1
            refine zW_call hS hkp hk hf F hRf hrel hs hi hcal c1 c2 c3 q1 ⟨by omega, by omega⟩ (fun H' locs' hrel' => ?_)
            exact zrn_W hS hkp hk F hRf hcF hsF hret n _ _ _ _ _ _ _ _ _ q2 hrel' hl (zoks_v a1 (zoks_drop hs _)) a2 (by omega) (by omega)
          · cases eq
        · obtain ⟨r, q1, q2⟩ := Option.bind_eq_some_iff.mp eq
          obtain ⟨a1, a2, a3, a4⟩ := zex_inv (zft_stat hf) hl hs hi q1
          obtain ⟨b1, b2, b3⟩ := zrn_keep hkp n _ _ _ _ _ _ a1 a2 a3 q2
          have l1 := a4.1
          have l2 := a4.2.1
          have l3 := b3.1
          have l4 := b3.2.1
          refine zex_W hk hf F hrel hl hs hi q1 ⟨by omega, by omega⟩ ⟨by omega, by omega⟩ (fun H' locs' lsA' cells' slots' hrel' e1 e2 => ?_)
          exact zrn_W hS hkp hk F hRf hcF hsF hret n _ _ _ _ _ _ _ _ _ q2 hrel' a1 a2 a3 (by omega) (by omega)
theorem zlv_rep (b sc : Nat) : ∀ (n i : Nat), zlv b sc i (List.replicate n zU) = []
  | 0, _ => rfl
  | n + 1, i => by rw [List.replicate_succ, zlv_cons, if_pos (show zun zU = true from rfl)]; exact zlv_rep b sc n (i + 1)
theorem zlv_ent (b sc : Nat) (t : List ZV) (ht : ∀ i, zlv b sc i t = []) : ∀ (as : List ZV) (i : Nat) (q : Nat × Value), q ∈ zlv b sc i (as.flatMap (fun v => if zct v = 2 then [v, zU] else [v]) ++ t) → q ∈ lv_args i (as.map (zcv b sc))
  | [], i, q, h => by
    rw [List.flatMap_nil, List.nil_append, ht] at h
    cases h
  | v :: as, i, q, h => by
    rw [List.map_cons]
    unfold lv_args
    rw [zct_cat]
    rw [List.flatMap_cons, List.append_assoc] at h
    by_cases h2 : zct v = 2
    · rw [if_pos h2] at h ⊢
      rw [List.cons_append, List.cons_append, List.nil_append, zlv_cons] at h
      rw [if_neg (by rcases v with x | x | x | x | x <;> simp [zun, zct] at h2 ⊢)] at h
      rcases List.mem_cons.mp h with h | h
      · rw [h]; exact List.mem_cons_self
      · rw [zlv_cons, if_pos (show zun zU = true from rfl)] at h
        exact List.mem_cons_of_mem _ (zlv_ent b sc t ht as (i + 2) q h)
    · rw [if_neg h2] at h ⊢
      rw [List.cons_append, List.nil_append, zlv_cons] at h
      split at h
      · exact List.mem_cons_of_mem _ (zlv_ent b sc t ht as (i + 1) q h)
      · rcases List.mem_cons.mp h with h | h
        · rw [h]; exact List.mem_cons_self
        · exact List.mem_cons_of_mem _ (zlv_ent b sc t ht as (i + 1) q h)
theorem zsl_len (b sc : Nat) : ∀ as : List ZV, (lg_sl (as.map (zcv b sc))).length = (as.flatMap (fun v => if zct v = 2 then [v, zU] else [v])).length
  | [] => rfl
  | v :: as => by
    have ih := zsl_len b sc as
    unfold lg_sl at ih ⊢
    rw [List.map_cons, List.flatMap_cons, List.flatMap_cons, List.length_append, List.length_append, ih, zct_cat]
    by_cases h2 : zct v = 2
    · rw [if_pos h2, if_pos h2]; rfl
    · rw [if_neg h2, if_neg h2]; rfl
theorem zent_len {mx : Nat} {as : List ZV} (h : (as.flatMap (fun v => if zct v = 2 then [v, zU] else [v])).length ≤ mx) : (zent mx as).length = mx := by
  unfold zent
  rw [List.length_append, List.length_replicate]
  omega
theorem zent_has (b sc : Nat) {mx : Nat} {as : List ZV} {lsA : Array Slot} (h : lv_has lsA mx (lv_args 0 (as.map (zcv b sc)))) : lv_has lsA mx (zlv b sc 0 (zent mx as)) :=
  ⟨h.1, h.2.1, fun q hq => h.2.2 q (zlv_ent b sc _ (fun i => zlv_rep b sc _ i) as 0 q hq)⟩
theorem zret_end {p : Program} {l : Launch} {e : Env} {R : Room} {s : State} {m : MethodId} {args : Array Value} {below : List Frame} {meth : Method} {c : Code} {b sc : Nat} {D : va_G} {cA : Nat → ClassId} {k cells slots : Nat} {v : Option ZV} {h1 : ZH} (hk : k < 256) (hx : p.tables.exec = Jvm.exec) (hb : c.code = (zm k).2.2.1) (hr : meth.sig.returnType = zrty k) (hlocks : meth.locks = false) {H' : Heap} {locs' : List Loc} {lsA' : Array Slot} {pc' n' : Nat} {i' : Instr} {ls' st' : List ZV} (hf : zft k pc' = some (n', i')) (hrt : zret k i' st' = some v) (hrel : zRel b sc D cA s k ls' h1 H' locs' lsA') : zGo p l e R s m args below meth c (MQ below (zQc b sc D cA v h1) args s cells slots (fun q => b ≤ q)) b sc cells slots H' locs' lsA' pc' st' := by
  have hd := zd_at hk hf
  have hst := zft_stat hf
  obtain ⟨g1, g2, g3, g5, g6, g7, g8⟩ := hrel
  cases i'
  case ireturn =>
    simp only [zstat, beq_iff_eq] at hst
    subst hst
    unfold zret at hrt
    dsimp only at hrt
    split at hrt
    · next x =>
      split at hrt
      · next hc =>
        cases hrt
        rcases hc with hc | ⟨hc, hx01⟩
        · exact W.iret (v := Int32.ofInt x) hx hb (hr.trans hc) (fun t ht hW => ⟨rfl, by rw [ht]; exact g3, fun q hq => by rw [ht]; exact g5 q hq⟩) g6 hd
        · exact W.zret (v := Int32.ofInt x) (ty := .boolean) hx hb (hr.trans hc) (by rcases hx01 with rfl | rfl <;> rfl) (fun t ht hW => ⟨rfl, by rw [ht]; exact g3, fun q hq => by rw [ht]; exact g5 q hq⟩) g6 hd
      · cases hrt
    · cases hrt
  case lreturn =>
    simp only [zstat, beq_iff_eq] at hst
    subst hst
    unfold zret at hrt
    dsimp only at hrt
    split at hrt
    · next x =>
      split at hrt
      · next hc =>
        cases hrt
        exact W.lret (v := x) hx hb (hr.trans hc) (fun t ht hW => ⟨rfl, by rw [ht]; exact g3, fun q hq => by rw [ht]; exact g5 q hq⟩) g6 hd
      · cases hrt
    · cases hrt
  case return_ =>
    simp only [zstat, beq_iff_eq] at hst
    subst hst
    unfold zret at hrt
    dsimp only at hrt
    split at hrt
    · split at hrt
      · next hc =>
        cases hrt
        exact W.vret hx hb (hr.trans hc) (fun t ht hW => ⟨rfl, by rw [ht]; exact g3, fun q hq => by rw [ht]; exact g5 q hq⟩) g6 hd
      · cases hrt
    · cases hrt
  all_goals cases hrt
theorem zevl_S (l : Launch) : ∀ d, zSnd l d (zevl d)
  | 0 => fun _ _ _ _ _ _ _ _ _ _ _ _ _ eq => by cases eq
  | d + 1 => by
    intro b sc D cA k as h v h1 hk hpl hoas hi eq
    unfold zevl at eq
    split at eq
    · next hlen =>
      obtain ⟨n, hn⟩ := zrun_some eq
      obtain ⟨-, -, b3⟩ := zrn_keep (zevl_keep d) n _ _ _ _ _ _ (zoks_ent hoas) (fun v hv => by cases hv) hi hn
      refine Met.ofW (cc := (zm k).2.2.1) (maxL := zmax k) (ret := zrty k) hpl rfl ?_
      intro p e s m args below meth c s₁ B hml hv
      obtain ⟨rfl, hK, hHR, hsb, hX⟩ := hv
      have hx := B.exec
      have hb := B.bytes
      have hr := B.returns
      have hts := atoms_spec (ws := zwk k) B.pre
      have hown : s.vm.findClass (zCnm (zown k)) = some m.cls := by
        rw [← zcls_ok k (by omega)]
        exact findClass_of_methodNamed B.named
      have hlocks := B.notSynchronized
      have hin : meth.name = (zm k).2.1.name := (name_of_methodNamed B.named B.method).1
      have hl := lv_entry (as.map (zcv b sc)) (n := zmax k) (by rw [zsl_len]; exact hlen)
      rw [lg_entry_eq]
      generalize (lg_sl (as.map (zcv b sc)) ++ List.replicate (zmax k - (lg_sl (as.map (zcv b sc))).length) Slot.unset).toArray = lsA at hl ⊢
      have F : zFr p (headSpec (zwk k) (zrm (d + 1) (h1.1.length - h.1.length) (ztot h1.1 - ztot h.1))).room s m (as.map (zcv b sc)).toArray meth c D cA k := ⟨hx, hb, hml, hown, fun w hw => hts w (List.mem_cons_of_mem _ hw), hK, fun q => by rw [hin]; unfold zini at q; simpa using q, by show 1 ≤ d + 1; omega, by show 40 ≤ 60 * (d + 1); omega⟩
      exact zrn_W (zevl_S l d) (zevl_keep d) (by omega) F ⟨by show d + 1 ≤ d + 1; omega, by show 60 * d + 60 ≤ 60 * (d + 1); omega⟩ (Nat.le_refl _) (Nat.le_refl _)
        (fun H' locs' lsA' pc' n' i' ls' st' q1 q2 q3 => zret_end (by omega) hx hb hr hlocks q1 q2 q3) n 0 (zent (zmax k) as) [] h s.heap [] lsA 0 0 hn ⟨zent_has b sc hl, zent_len hlen, hHR, fun _ _ => rfl, fun _ hq => (List.not_mem_nil hq).elim, hsb, hX⟩ (zoks_ent hoas) (fun v hv => by cases hv) hi (by have := b3.1; show 0 + h1.1.length = (h1.1.length - h.1.length) + h.1.length; omega) (by have := b3.2.1; show 0 + ztot h1.1 = (ztot h1.1 - ztot h.1) + ztot h.1; omega)
    · cases eq
