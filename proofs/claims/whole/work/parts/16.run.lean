theorem zrev_len {st : List ZV} {n : Nat} (h : n ≤ st.length) : ((st.take n).reverse).length = n := by rw [List.length_reverse, List.length_take]; omega
theorem zcls_ok : ∀ k, k < 256 → (zm k).2.1.cls = zCnm (zown k) := by decide +kernel
section
variable {p : Program} {l : Launch} {e : Env} {R : Room} {s : State} {m : MethodId} {args : Array Value} {below : List Frame} {meth : Method} {c : Code} {Q : State → Prop} {b sc : Nat} {D : va_G} {cA : Nat → ClassId} {k cells slots : Nat} {H : Heap} {locs : List Loc} {lsA : Array Slot} {pc : Nat} {ls st : List ZV} {h : ZH}
theorem zMok_of {ps : List Nat} {k' : Nat} (h : zMok ps k' = true) : k' < 255 ∧ Cond.initialized (zm k').2.1.cls ∈ zWs ∧ (zm k').2.1.cls ≠ "java/lang/invoke/MethodHandle" ∧ (zm k').2.1.cls ≠ "java/lang/invoke/VarHandle" ∧ Jvm.plainName (zm k').2.1.cls = true ∧ (zm k').2.1.cls = zCnm (zown k') := by
  unfold zMok at h
  simp only [Bool.and_eq_true, decide_eq_true_eq] at h
  exact ⟨h.1.1.1.1.1, zpos_in h.1.1.1.1.2, h.1.1.1.2, h.1.1.2, h.1.2, h.2⟩
theorem zPc_at {as : List ZV} {av : Array Value} (F : zFr p R s m args meth c D cA k) (hrel : zRel b sc D cA s k ls h H locs lsA) (ha : av = (as.map (zcv b sc)).toArray) {U : State} (hU : U.heap = H) (hW : s.WarmedH U.vm) : zPc b sc D cA as h av U := by
  refine ⟨ha, F.2.2.2.2.2.1.warm hW, by rw [hU]; exact hrel.2.2.1, hrel.2.2.2.2.2.1, ?_⟩
  rw [hU]
  obtain ⟨L, xs, h1, h2⟩ := hrel.2.2.2.2.2.2
  exact ⟨L, xs, h1.moved hW.alike, h2⟩
/-- a call of any kind -/
theorem zW_call {d n : Nat} {cal : Nat → List ZV → ZH → ZO} (hS : zSnd l d cal) (hkp : zkeep cal) {i : Instr} {k' kd : Nat} {v : Option ZV} {h1 : ZH} (hk : k < 256) (hf : zft k pc = some (n, i)) (F : zFr p R s m args meth c D cA k) (hRf : d + 1 ≤ R.frames ∧ 60 * d + 60 ≤ R.locals) (hrel : zRel b sc D cA s k ls h H locs lsA) (hs : zoks st) (hi : zinv h)
    (hcal : zcal (zown k) i = some (k', kd)) (hlen : znA k' ≤ st.length) (hcat : ((st.drop (znA k')).map zct).sum ≤ 8) (hrcv : zrcv k' kd (st.take (znA k')).reverse h = true) (hev : cal k' (st.take (znA k')).reverse h = some (v, h1))
    (hR : cells + (h1.1.length - h.1.length) ≤ R.cells ∧ slots + (ztot h1.1 - ztot h.1) ≤ R.slots)
    (kk : ∀ (H' : Heap) (locs' : List Loc), zRel b sc D cA s k ls h1 H' locs' lsA → zGo p l e R s m args below meth c Q b sc (cells + (h1.1.length - h.1.length)) (slots + (ztot h1.1 - ztot h.1)) H' locs' lsA (pc + n) (v.toList ++ st.drop (znA k'))) : zGo p l e R s m args below meth c Q b sc cells slots H locs lsA pc st := by
  have hd := zd_at hk hf
  have hst := zft_stat hf
  obtain ⟨-, hidx⟩ := zft_st2 hf
  have F2 := F
  obtain ⟨hex, hb, hml, hown, hts, hK, hnm, hfr, hlo⟩ := F
  have hoas := zoks_take hs (znA k')
  obtain ⟨-, -, hle⟩ := hkp _ _ _ _ _ hoas hi hev
  have hal := zrev_len hlen
  have hrest : 2 * (F0 m pc lsA (st.map (zcv b sc))).monitorRoom + (((st.drop (znA k')).map (zcv b sc)).map fun v => v.category).sum ≤ 8 := by
    rw [zcats]
    show 2 * 0 + _ ≤ 8
    omega
  have hroom : ∀ {k' : Nat}, k' < 255 → (zrm d (h1.1.length - h.1.length) (ztot h1.1 - ztot h.1)).frames + 1 ≤ R.frames ∧ 8 + (zmax k' + 11) + (zrm d (h1.1.length - h.1.length) (ztot h1.1 - ztot h.1)).locals ≤ R.locals := fun {k'} hk' => by
    have := zmax_le k' (by omega)
    refine ⟨hRf.1, ?_⟩
    show 8 + (zmax k' + 11) + 60 * d ≤ R.locals
    omega
  have hfix : CallFix p m c (zm k).2.2.1 (zmax k) s args zWs (zCnm (zown k)) := ⟨hex, hb, hml, hown, hts⟩
  generalize has : (st.take (znA k')).reverse = as at *
  have hstk : st.map (zcv b sc) = (as.map (zcv b sc)).reverse ++ (st.drop (znA k')).map (zcv b sc) := by rw [← has]; exact zsplit
  have hout : ∀ {g : JFrame}, g = F0 m pc lsA (st.map (zcv b sc)) → { g with pc := g.pc + 3, stack := (v.map (zcv b sc)).toList ++ (st.drop (znA k')).map (zcv b sc) } = F0 m (pc + 3) lsA ((v.toList ++ st.drop (znA k')).map (zcv b sc)) := by
    intro g hg
    rw [hg, zcv_opt]
  unfold zcal at hcal
  split at hcal
  · next x =>
    simp only [zstat, beq_iff_eq] at hst
    subst hst
    obtain ⟨q, h2, h3⟩ := Option.bind_eq_some_iff.mp hcal
    split at h3
    · next hkd =>
      cases h3
      simp only at hkd
      subst hkd
      obtain ⟨ps, hp⟩ := zMl_at h2
      simp only [zMchk, zky_div (show x < 4096 from hidx), zky_mod (show x < 4096 from hidx), Bool.and_eq_true, decide_eq_true_eq] at hp
      obtain ⟨⟨⟨⟨p1, p2⟩, p3⟩, p4⟩, p5, p6, p7, p8⟩ := hp
      obtain ⟨o1, o2, o3, o4, o5, o6⟩ := zMok_of p1
      have hM := hS b sc D cA k' as h v h1 o1 o5 hoas hi hev
      unfold zrcv at hrcv
      simp only at hrcv
      split at hrcv
      · next a as0 =>
        have hka : zkn h.1 a = zown k' := by simpa using hrcv
        have ha : a < h.1.length := zkn_lt (by omega)
        have hca := hrel.2.2.1.2
        have hce := zws_at (b := b) (sc := sc) (cA := cA) ha
        rw [show zce b sc cA (h.1.getD a (99, 0, [])) (h.2 a) = .inr (zown k', (List.range (zFk.getD (zown k') []).length).map (zfv b sc (zown k') (h.1.getD a (99, 0, [])).2.2 (h.2 a))) by unfold zce; rw [show (h.1.getD a (99, 0, [])).1 = zown k' from hka, if_pos (by omega)]] at hce
        have hr := va_recv hK.1 hca (zCl_at p7) hce
        rw [List.map_cons, show zcv b sc (Sum.inr (Sum.inl a)) = .ref (b + a) from congrArg Value.ref (zad_of (b := b) (sc := sc) ha hi.2.2)] at hstk
        have hn0 : as0.length = znA k' - 1 := by
          rw [List.length_cons] at hal
          omega
        refine zcall_go hrel hle.2.2 (W.runV (C := zC (zown k')) (b := b + a) (As := as0.map (zcv b sc)) (n := znA k' - 1) hfix hM ⟨callB_of _ hts (zwk_good o1) rfl rfl rfl (hts _ o2) (hts _ (zpos_in p2)) ⟨o3, o4, p5⟩ (hroom o1), hts _ (zpos_in p3), by rw [← p8]; exact hts _ (zpos_in p4)⟩ ⟨zPc_blind, hr, fun U hU hW => zPc_at F2 hrel (by rw [List.map_cons, show zcv b sc (Sum.inr (Sum.inl a)) = .ref (b + a) from congrArg Value.ref (zad_of (b := b) (sc := sc) ha hi.2.2)]) hU hW⟩ rfl (by rw [List.length_map]; exact hn0) hrel.1.1 (by rw [List.reverse_cons, List.append_assoc] at hstk; exact hstk) hrest hd hR) (hout rfl) (fun H' locs' hrel' => kk H' locs' hrel')
      · cases hrcv
    · cases h3
  · next x =>
    simp only [zstat, beq_iff_eq] at hst
    subst hst
    obtain ⟨q, h2, h3⟩ := Option.bind_eq_some_iff.mp hcal
    split at h3
    · next hkd =>
      cases h3
      simp only at hkd
      obtain ⟨ps, hp⟩ := zMl_at h2
      rcases hkd with rfl | rfl
      · simp only [zMchk, zky_div (show x < 4096 from hidx), zky_mod (show x < 4096 from hidx), Bool.and_eq_true, decide_eq_true_eq] at hp
        obtain ⟨⟨⟨p1, p2⟩, p3⟩, p5⟩ := hp
        obtain ⟨o1, o2, o3, o4, o5, o6⟩ := zMok_of p1
        have hM := hS b sc D cA k' as h v h1 o1 o5 hoas hi hev
        refine zcall_go hrel hle.2.2 (W.runS (As := as.map (zcv b sc)) (n := znA k') hfix hM ⟨callB_of _ hts (zwk_good o1) rfl rfl rfl (hts _ o2) (hts _ (zpos_in p2)) ⟨o3, o4, p5⟩ (hroom o1), hts _ (zpos_in p3)⟩ ⟨zPc_blind, fun U hU hW => zPc_at F2 hrel rfl hU hW⟩ rfl (by rw [List.length_map]; exact hal) hrel.1.1 hstk hrest hd hR) (hout rfl) (fun H' locs' hrel' => kk H' locs' hrel')
      · simp only [zMchk, zky_div (show x < 4096 from hidx), zky_mod (show x < 4096 from hidx), Bool.and_eq_true, decide_eq_true_eq] at hp
        obtain ⟨⟨⟨p1, p2⟩, p3⟩, p5⟩ := hp
        obtain ⟨o1, o2, o3, o4, o5, o6⟩ := zMok_of p1
        have hM := hS b sc D cA k' as h v h1 o1 o5 hoas hi hev
        refine zcall_go hrel hle.2.2 (va_runSN (As := as.map (zcv b sc)) (n := znA k') hfix hM ⟨va_cnB _ hts (zwk_good o1) rfl rfl rfl (hK.2.1 _ (List.mem_filter.mpr ⟨List.mem_of_getElem? p2, rfl⟩)) (hts _ o2) ⟨o3, o4, p5⟩ (hroom o1), hts _ (zpos_in p3), trivial⟩ ⟨zPc_blind, fun U hU hW => zPc_at F2 hrel rfl hU hW⟩ rfl (by rw [List.length_map]; exact hal) hrel.1.1 hstk hrest hd hR).run (hout rfl) (fun H' locs' hrel' => kk H' locs' hrel')
    · cases h3
  · next x =>
    simp only [zstat, beq_iff_eq] at hst
    subst hst
    obtain ⟨q, h2, h3⟩ := Option.bind_eq_some_iff.mp hcal
    split at h3
    · next hkd =>
      cases h3
      simp only at hkd
      obtain ⟨ps, hp⟩ := zMl_at h2
      have hrc : ∃ a as0, as = zR a :: as0 ∧ a < h.1.length ∧ zkn h.1 a = zown k' := by
        unfold zrcv at hrcv
        rcases hkd with rfl | rfl
        all_goals
          simp only at hrcv
          split at hrcv
          · next a as0 =>
            have hka : zkn h.1 a = zown k' := by simpa using hrcv
            refine ⟨a, as0, rfl, zkn_lt ?_, hka⟩
            rw [hka]
            have : ∀ k, k < 256 → zown k < 99 := by decide +kernel
            by_cases hk2 : k' < 256
            · exact this k' hk2
            · exfalso
              have hq : ∀ q ∈ zMl, q.2.1 < 256 := by decide +kernel
              exact hk2 (hq _ (zlook_mem h2))
          · cases hrcv
      obtain ⟨a, as0, rfl, ha, hka⟩ := hrc
      rw [List.map_cons, show zcv b sc (zR a) = .ref (b + a) from congrArg Value.ref (zad_of (b := b) (sc := sc) ha hi.2.2)] at hstk
      have hn0 : as0.length = znA k' - 1 := by
        rw [List.length_cons] at hal
        omega
      rcases hkd with rfl | rfl
      · simp only [zMchk, zky_div (show x < 4096 from hidx), zky_mod (show x < 4096 from hidx), Bool.and_eq_true, decide_eq_true_eq] at hp
        obtain ⟨⟨⟨p1, p2⟩, p3⟩, p4, p5, p6, p7⟩ := hp
        obtain ⟨o1, o2, o3, o4, o5, o6⟩ := zMok_of p1
        have hM := hS b sc D cA k' _ h v h1 o1 o5 hoas hi hev
        refine zcall_go hrel hle.2.2 (W.runI (b := b + a) (As := as0.map (zcv b sc)) (n := znA k' - 1) hfix hM ⟨callB_of (ws' := zWs) _ hts (zwk_good o1) (by unfold zwk; rw [p7]) rfl rfl (hts _ o2) (hts _ (zpos_in p2)) ⟨o3, o4, p5⟩ (hroom o1), p4, hts _ (zpos_in p3)⟩ ⟨zPc_blind, fun U hU hW => zPc_at F2 hrel (by rw [List.map_cons, show zcv b sc (zR a) = .ref (b + a) from congrArg Value.ref (zad_of (b := b) (sc := sc) ha hi.2.2)]) hU hW⟩ rfl (by rw [List.length_map]; exact hn0) hrel.1.1 (by rw [List.reverse_cons, List.append_assoc] at hstk; exact hstk) hrest hd hR) (hout rfl) (fun H' locs' hrel' => kk H' locs' hrel')
      · simp only [zMchk, zky_div (show x < 4096 from hidx), zky_mod (show x < 4096 from hidx), Bool.and_eq_true, decide_eq_true_eq] at hp
        obtain ⟨⟨⟨p1, p2⟩, p3⟩, p4, p5, p6, p7⟩ := hp
        obtain ⟨o1, o2, o3, o4, o5, o6⟩ := zMok_of p1
        have hM := hS b sc D cA k' _ h v h1 o1 o5 hoas hi hev
        refine zcall_go hrel hle.2.2 (va_runIN (b := b + a) (As := as0.map (zcv b sc)) (n := znA k' - 1) hfix hM ⟨va_cnB (ws' := zWs) _ hts (zwk_good o1) (by unfold zwk; rw [p7]) rfl rfl (hK.2.1 _ (List.mem_filter.mpr ⟨List.mem_of_getElem? p2, rfl⟩)) (hts _ o2) ⟨o3, o4, p5⟩ (hroom o1), p4, hts _ (zpos_in p3)⟩ ⟨zPc_blind, fun U hU hW => zPc_at F2 hrel (by rw [List.map_cons, show zcv b sc (zR a) = .ref (b + a) from congrArg Value.ref (zad_of (b := b) (sc := sc) ha hi.2.2)]) hU hW⟩ rfl (by rw [List.length_map]; exact hn0) hrel.1.1 (by rw [List.reverse_cons, List.append_assoc] at hstk; exact hstk) hrest hd hR).run (hout rfl) (fun H' locs' hrel' => kk H' locs' hrel')
    · cases h3
  · cases hcal
end
