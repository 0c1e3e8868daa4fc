/-! the instructions that read and write cells: a step of the numbers is a step of the machine -/
theorem zad_of {b sc a n : Nat} (h : a < n) (hn : n ≤ 3000) : zad b sc a = b + a := by
  unfold zad
  rw [if_neg (fun q => by unfold zSC at q; omega)]
theorem zkn_at {s : ZS} {a ci : Nat} (h : zkn s a = ci) : (s.getD a (99, 0, [])).1 = ci := h
/-- one cell has changed -/
theorem zP_upd {b sc : Nat} {D : va_G} {cA : Nat → ClassId} {h h' : ZH} {H H1 : Heap} {a : Nat} (hP : va_P D zCl (zws b sc cA h) H) (hl : h'.1.length = h.1.length) (hs : ∀ i, i ≠ a → h'.1.getD i (99, 0, []) = h.1.getD i (99, 0, []) ∧ h'.2 i = h.2 i)
    (ha : va_at D zCl (b + a, zce b sc cA (h'.1.getD a (99, 0, [])) (h'.2 a)) H1) (hq : ∀ q, q ≠ b + a → H1[q]? = H[q]?) : va_P D zCl (zws b sc cA h') H1 := by
  intro i x hx
  have hi : i < h'.1.length := by
    have := (List.getElem?_eq_some_iff.mp hx).1
    unfold zws at this
    rwa [List.length_map, List.length_range] at this
  rw [zws_at hi] at hx
  cases hx
  by_cases hia : i = a
  · subst hia; exact ha
  · have h1 := hP i _ (zws_at (by omega))
    rw [(hs i hia).1, (hs i hia).2]
    exact h1.kept (hq _ (by omega))
/-- cells have come -/
theorem zP_app {b sc : Nat} {D : va_G} {cA : Nat → ClassId} {h : ZH} {H H1 : Heap} {t : ZS} {n : Nat} (hP : va_P D zCl (zws b sc cA h) H) (hz : H.size = b + h.1.length)
    (ho : ∀ q, q < H.size → H1[q]? = H[q]?) (hn : ∀ j, j < t.length → va_at D zCl (b + (h.1.length + j), zce b sc cA (t.getD j (99, 0, [])) (zzr h.2 h.1.length n (h.1.length + j))) H1) : va_P D zCl (zws b sc cA (h.1 ++ t, zzr h.2 h.1.length n)) H1 := by
  intro i x hx
  have hi : i < (h.1 ++ t).length := by
    have := (List.getElem?_eq_some_iff.mp hx).1
    unfold zws at this
    rwa [List.length_map, List.length_range] at this
  rw [zws_at hi] at hx
  cases hx
  show va_at D zCl (b + i, zce b sc cA ((h.1 ++ t).getD i (99, 0, [])) (zzr h.2 h.1.length n i)) H1
  by_cases hia : i < h.1.length
  · have h1 := hP i _ (zws_at hia)
    rw [show (h.1 ++ t).getD i (99, 0, []) = h.1.getD i (99, 0, []) by rw [List.getD_eq_getElem?_getD, List.getD_eq_getElem?_getD, List.getElem?_append_left hia]]
    rw [show zzr h.2 h.1.length n i = h.2 i by funext j; unfold zzr; rw [if_neg (by omega)]]
    exact h1.kept (ho _ (by omega))
  · rw [List.length_append] at hi
    have h1 := hn (i - h.1.length) (by omega)
    rw [show h.1.length + (i - h.1.length) = i by omega] at h1
    rw [show (h.1 ++ t).getD i (99, 0, []) = t.getD (i - h.1.length) (99, 0, []) by rw [List.getD_eq_getElem?_getD, List.getD_eq_getElem?_getD, List.getElem?_append_right (by omega)]]
    exact h1
def zKK (p : Program) (l : Launch) (e : Env) (R : Room) (s : State) (m : MethodId) (args : Array Value) (below : List Frame) (meth : Method) (c : Code) (Q : State → Prop) (b sc : Nat) (D : va_G) (cA : Nat → ClassId) (k cells slots : Nat) (h : ZH) (r : Nat × List ZV × List ZV × ZH) : Prop :=
  ∀ (H' : Heap) (locs' : List Loc) (lsA' : Array Slot) (cells' slots' : Nat), zRel b sc D cA s k r.2.1 r.2.2.2 H' locs' lsA' → cells' + h.1.length = cells + r.2.2.2.1.length → slots' + ztot h.1 = slots + ztot r.2.2.2.1 → W p l e R s m args below meth c H' locs' cells' slots' Q (F0 m r.1 lsA' (r.2.2.1.map (zcv b sc)))
theorem zX_kept {sc : Nat} {h h' : ZH} {U : State} {H H1 : Heap} (hX : zX sc h U H) (hq : H1[sc]? = H[sc]?) (hs : ∀ j, h'.2 zSC j = h.2 zSC j) : zX sc h' U H1 := by
  obtain ⟨L, xs, h1, h2, h3, h4⟩ := hX
  exact ⟨L, xs, h1.kept hq, h2, by rw [hs]; exact h3, fun j hj => by rw [hs]; exact h4 j hj⟩
section
variable {p : Program} {l : Launch} {e : Env} {R : Room} {s : State} {m : MethodId} {args : Array Value} {below : List Frame} {meth : Method} {c : Code} {Q : State → Prop} {b sc : Nat} {D : va_G} {cA : Nat → ClassId} {k cells slots : Nat} {H : Heap} {locs : List Loc} {lsA : Array Slot} {pc : Nat} {ls st : List ZV} {h : ZH} {r : Nat × List ZV × List ZV × ZH}
theorem zFl_in {o x : Nat} {q : Nat × Nat} (h : zFl.lookup (zky o x) = some q) (hx : x < 4096) : Cond.fieldLink (zCnm o) x (zT q.1 q.2).1 (zT q.1 q.2).2.1 (zT q.1 q.2).2.2.1 ∈ zWs ∧ q.2 < zN q.1 := by
  have h1 := List.all_eq_true.mp zFl_w _ (zlook_mem h)
  simp only [Bool.and_eq_true, decide_eq_true_eq] at h1
  refine ⟨List.mem_filter.mpr ⟨?_, ?_⟩, h1.2⟩
  · have := h1.1.1
    unfold zFw at this
    simp only [zky_div hx, zky_mod hx] at this
    exact this
  · have := h1.1.2
    unfold zFw at this
    simp only [zky_div hx, zky_mod hx] at this
    exact this
theorem zW_get (F : zFr p R s m args meth c D cA k) (hrel : zRel b sc D cA s k ls h H locs lsA) (hi : zinv h) {x ci kf : Nat} (hlk : zFl.lookup (zky (zown k) x) = some (ci, kf)) (hx : x < 4096) (hd : decode (zm k).2.2.1 pc = .ok (.getfield x, 3)) (eq : zget ci kf (pc + 3) ls st h = some r) (kk : zKK p l e R s m args below meth c Q b sc D cA k cells slots h r) : W p l e R s m args below meth c H locs cells slots Q (F0 m pc lsA (st.map (zcv b sc))) := by
  obtain ⟨hex, hb, hml, hown, hts, hK, -⟩ := F
  unfold zget at eq
  split at eq
  · next a st =>
    split at eq
    · next hk =>
      obtain ⟨hc1, hc2⟩ := zFl_ok hlk
      have ha : a < h.1.length := zkn_lt (by rw [hk]; omega)
      obtain ⟨hw, hkf⟩ := zFl_in hlk hx
      have he : zce b sc cA (h.1.getD a (99, 0, [])) (h.2 a) = .inr (ci, (List.range (zFk.getD ci []).length).map (zfv b sc ci (h.1.getD a (99, 0, [])).2.2 (h.2 a))) := by
        unfold zce
        rw [show (h.1.getD a (99, 0, [])).1 = ci from hk, if_pos (by omega)]
      have hv : ((List.range (zFk.getD ci []).length).map (zfv b sc ci (h.1.getD a (99, 0, [])).2.2 (h.2 a)))[kf]? = some (zfv b sc ci (h.1.getD a (99, 0, [])).2.2 (h.2 a) kf) := by
        rw [List.getElem?_map, List.getElem?_range hc2]; rfl
      show W p l e R s m args below meth c H locs cells slots Q (F0 m pc lsA (.ref (zad b sc a) :: st.map (zcv b sc)))
      rw [zad_of ha hi.2.2]
      refine va_get (C := zC ci) (T := zT ci) (N := zN ci) (own := zCnm (zown k)) (ref := (zT ci kf).1) hex hb hts (zu_in hc1) hown hK.1 hrel.2.2.1.2 a ((zws_at ha).trans (by rw [he])) (zCl_at hc1) kf hkf (hts _ hw) (fun _ q => q) hv hd ?_
      split at eq
      · next hf =>
        split at eq
        · cases eq
        · next q hq =>
          cases eq
          have := kk H locs lsA cells slots hrel rfl rfl
          rw [show zfv b sc ci (h.1.getD a (99, 0, [])).2.2 (h.2 a) kf = .ref (zad b sc q) by unfold zfv; rw [if_pos hf, show (h.1.getD a (99, 0, [])).2.2.getD kf 0 = q + 1 from hq]; rfl]
          exact this
      · next hf =>
        cases eq
        rw [show zfv b sc ci (h.1.getD a (99, 0, [])).2.2 (h.2 a) kf = .int (Int32.ofInt (h.2 a kf)) by unfold zfv; rw [if_neg hf]]
        exact kk H locs lsA cells slots hrel rfl rfl
    · cases eq
  · cases eq
/-- a field is written: the cell as it is then, the heap's size, the other cells -/
theorem zz_put (F : zFr p R s m args meth c D cA k) {ci kf x a : Nat} {rest : List Value} {fs : List Value} (hlk : zFl.lookup (zky (zown k) x) = some (ci, kf)) (hx : x < 4096) (hinit : (zT ci kf).2.2.2 = true → zini k = true ∧ (zT ci kf).1 = zCnm (zown k)) (hat : va_at D zCl (a, .inr (ci, fs)) H) {v : Value} (hn : narrow (ztyp ci kf) v = v) (hfit : fits (ztyp ci kf) v = true) (hl : kf < fs.length) (hd : decode (zm k).2.2.1 pc = .ok (.putfield x, 3))
    (kk : ∀ H1 : Heap, va_at D zCl (a, .inr (ci, fs.set kf v)) H1 → H1.size = H.size → (∀ q, q ≠ a → H1[q]? = H[q]?) → ∀ lo : Loc, lo.base = a → W p l e R s m args below meth c H1 (locs ++ [lo]) cells slots Q (F0 m (pc + 3) lsA rest)) : W p l e R s m args below meth c H locs cells slots Q (F0 m pc lsA (v :: .ref a :: rest)) := by
  obtain ⟨hex, hb, hml, hown, hts, hK, hnm, -⟩ := F
  obtain ⟨hc1, hc2⟩ := zFl_ok hlk
  obtain ⟨hw, hkf⟩ := zFl_in hlk hx
  have hc := zCl_at hc1
  have hin := zu_in hc1
  have hap := va_apart (own := zCnm (zown k)) hts hin (ztyp ci) (ztyp_ok hc1) (znm_ok hc1) hK.1 hc
  obtain ⟨r, h1, cell, q1, q2, q3, q4⟩ := hat
  have hr : r = (zC ci, zT ci, zN ci) := Option.some.inj (h1.symm.trans hc)
  subst hr
  obtain ⟨hS, hfc, kC, hkC, hkind⟩ := hK.1.1 ci _ hc
  obtain ⟨cf, kff, fi, f, hfd, hsl⟩ := hS kf hkf
  have hlay := hts _ (hin _ (u_in_lay hkf))
  have hst := (u_facts hfc hkC (u_lays hts hin hkf) hfd).1
  have hd2 := ztyp_ok hc1 kf hkf
  unfold u_lay at hlay
  by_cases hfin : (zT ci kf).2.2.2 = true
  · rw [if_pos hfin] at hlay
    have hcf : m.cls = cf := by
      obtain ⟨_, _, c', _, _, _, -, -, hf', -, -, -, hown2, -⟩ := Cond.laysFinal_spec hlay
      have e1 : c' = cf := by have := hfd.symm.trans hf'; simp at this; exact this.1.symm
      rw [(hinit hfin).2] at hown2
      rw [← e1]; exact Option.some.inj (hown.symm.trans hown2)
    have h6 := u_fits hfc hkC hkind (Or.inr hlay) hfd hd2 hn hfit
    refine W.putFinK hex hb hown (hts _ hw) hfd hst hcf (hnm (hinit hfin).1) (by rw [q2]; exact h6) q1 q3 (by rw [hsl]; exact k2_hasslot (q4 kf hkf)) rfl rfl hd fun H' e1 e2 e3 => ?_
    rw [hsl] at e1
    exact kk H' ⟨_, hc, t_OB.to (V := updV (vp_V fs) kf v) ⟨_, e1, q2, q3, t_set q4 hap hkf v⟩ (fun j _ => vp_updV_set hl v j)⟩ e2 e3 _ rfl
  · rw [if_neg hfin] at hlay
    have h6 := u_store hfc hkC hkind hlay hfd hd2 hn hfit
    refine W.putK hex hb (f := f) ⟨hown, hts _ hw, ⟨_, _, _, hfd⟩, hst⟩ (by rw [q2]; exact h6) q1 q3 (by rw [hsl]; exact k2_hasslot (q4 kf hkf)) rfl rfl hd fun H' e1 e2 e3 => ?_
    rw [hsl] at e1
    exact kk H' ⟨_, hc, t_OB.to (V := updV (vp_V fs) kf v) ⟨_, e1, q2, q3, t_set q4 hap hkf v⟩ (fun j _ => vp_updV_set hl v j)⟩ e2 e3 _ rfl
theorem zmap_set {α : Type} {n kf : Nat} {f g : Nat → α} {v : α} (h1 : ∀ j, j ≠ kf → g j = f j) (h2 : g kf = v) : ((List.range n).map f).set kf v = (List.range n).map g := by
  refine List.ext_getElem (by simp) fun i q1 q2 => ?_
  rw [List.getElem_set]
  simp only [List.getElem_map, List.getElem_range]
  split
  · next hh => rw [← hh, h2]
  · next hh => exact (h1 i (Ne.symm hh)).symm
theorem zW_put (F : zFr p R s m args meth c D cA k) (hrel : zRel b sc D cA s k ls h H locs lsA) (hi : zinv h) {x ci kf : Nat} (hlk : zFl.lookup (zky (zown k) x) = some (ci, kf)) (hx : x < 4096) (hinit : (zT ci kf).2.2.2 = true → zini k = true ∧ (zT ci kf).1 = zCnm (zown k)) (hd : decode (zm k).2.2.1 pc = .ok (.putfield x, 3)) (eq : zput ci kf (pc + 3) ls st h = some r) (kk : zKK p l e R s m args below meth c Q b sc D cA k cells slots h r) : W p l e R s m args below meth c H locs cells slots Q (F0 m pc lsA (st.map (zcv b sc))) := by
  obtain ⟨hc1, hc2⟩ := zFl_ok hlk
  obtain ⟨hw, hkf⟩ := zFl_in hlk hx
  obtain ⟨t1, t2, t3, t4⟩ := ztyp_k hc1 kf hkf
  obtain ⟨g1, g2, ⟨g3, g4⟩, g5, g6, g7, g8⟩ := hrel
  have he : ∀ a, zkn h.1 a = ci → zce b sc cA (h.1.getD a (99, 0, [])) (h.2 a) = .inr (ci, (List.range (zFk.getD ci []).length).map (zfv b sc ci (h.1.getD a (99, 0, [])).2.2 (h.2 a))) := fun a hk => by
    unfold zce
    rw [show (h.1.getD a (99, 0, [])).1 = ci from hk, if_pos (by omega)]
  unfold zput at eq
  split at eq
  · next v a st =>
    split at eq
    · next hk =>
      cases eq
      have ha : a < h.1.length := zkn_lt (by rw [hk.1]; omega)
      have hne : zfk ci kf ≠ 2 := by rcases hk.2 with q | q <;> omega
      show W p l e R s m args below meth c H locs cells slots Q (F0 m pc lsA (.int (Int32.ofInt v) :: .ref (zad b sc a) :: st.map (zcv b sc)))
      rw [zad_of ha hi.2.2]
      refine zz_put F hlk hx hinit (fs := (List.range (zFk.getD ci []).length).map (zfv b sc ci (h.1.getD a (99, 0, [])).2.2 (h.2 a))) (by have := g4 a _ (zws_at ha); rwa [he a hk.1] at this) ?_ ?_ (by rw [List.length_map, List.length_range]; exact hc2) hd ?_
      · rcases hk.2 with q | ⟨q, z⟩
        · rw [t2 q]; rfl
        · rw [t3 q]; rcases z with rfl | rfl <;> rfl
      · rcases hk.2 with q | ⟨q, z⟩
        · rw [t2 q]; rfl
        · rw [t3 q]; rcases z with rfl | rfl <;> rfl
      · intro H1 e1 e2 e3 lo elo
        refine kk H1 _ lsA cells slots ⟨g1, g2, ⟨by rw [e2]; exact g3, ?_⟩, fun q hq => by rw [e3 q (by omega)]; exact g5 q hq, fun q hq => ?_, g7, zX_kept g8 (e3 sc (by omega)) (fun j => ?_)⟩ rfl rfl
        · refine zP_upd (a := a) g4 rfl (fun i hia => ⟨rfl, ?_⟩) ?_ e3
          · funext j
            show zwr h.2 a kf v i j = h.2 i j
            unfold zwr
            rw [if_neg (fun q => hia q.1)]
          · show va_at D zCl (b + a, zce b sc cA (h.1.getD a (99, 0, [])) (zwr h.2 a kf v a)) H1
            rw [show zce b sc cA (h.1.getD a (99, 0, [])) (zwr h.2 a kf v a) = .inr (ci, (List.range (zFk.getD ci []).length).map (zfv b sc ci (h.1.getD a (99, 0, [])).2.2 (zwr h.2 a kf v a))) by unfold zce; rw [show (h.1.getD a (99, 0, [])).1 = ci from hk.1, if_pos (by omega)]]
            rw [← zmap_set (f := zfv b sc ci (h.1.getD a (99, 0, [])).2.2 (h.2 a)) (kf := kf) (v := .int (Int32.ofInt v))]
            · exact e1
            · intro j hj
              unfold zfv
              congr 3
              unfold zwr
              rw [if_neg (fun q => hj (by have := q.2; omega))]
            · unfold zfv
              rw [if_neg hne]
              unfold zwr
              rw [if_pos ⟨rfl, rfl⟩]
        · rcases List.mem_append.mp hq with hq | hq
          · exact g6 q hq
          · rcases List.mem_singleton.mp hq with rfl; rw [elo]; omega
        · show zwr h.2 a kf v zSC j = _
          unfold zwr
          rw [if_neg (fun q => by have := q.1; have := hi.2.2; unfold zSC at *; omega)]
    · cases eq
  · next v a st =>
    split at eq
    · next hk =>
      cases eq
      obtain ⟨hk1, hk2, hk3⟩ := hk
      have ha : a < h.1.length := zkn_lt (by rw [hk1]; omega)
      show W p l e R s m args below meth c H locs cells slots Q (F0 m pc lsA (.ref (zad b sc v) :: .ref (zad b sc a) :: st.map (zcv b sc)))
      rw [zad_of (b := b) (sc := sc) ha hi.2.2]
      have hrl : kf < (h.1.getD a (99, 0, [])).2.2.length := by
        have := hi.1 _ (zget_mem ha)
        rw [this.1, (this.2.1 (by rw [show (h.1.getD a (99, 0, [])).1 = ci from hk1]; omega)).2, show (h.1.getD a (99, 0, [])).1 = ci from hk1]
        exact hc2
      refine zz_put F hlk hx hinit (fs := (List.range (zFk.getD ci []).length).map (zfv b sc ci (h.1.getD a (99, 0, [])).2.2 (h.2 a))) (by have := g4 a _ (zws_at ha); rwa [he a hk1] at this) ?_ ?_ (by rw [List.length_map, List.length_range]; exact hc2) hd ?_
      · have := t4 hk2
        revert this
        cases ztyp ci kf <;> first | (intro; rfl) | (intro q; cases q)
      · have := t4 hk2
        revert this
        cases ztyp ci kf <;> first | (intro; rfl) | (intro q; cases q)
      · intro H1 e1 e2 e3 lo elo
        refine kk H1 _ lsA cells slots ⟨g1, g2, ⟨by rw [e2, g3]; simp [zsr], ?_⟩, fun q hq => by rw [e3 q (by omega)]; exact g5 q hq, fun q hq => ?_, g7, zX_kept g8 (e3 sc (by omega)) (fun j => rfl)⟩ (by simp [zsr]) (by rw [show ztot (zsr h.1 a kf (v + 1)) = ztot h.1 from ztot_set rfl])
        · refine zP_upd (h := h) (h' := (zsr h.1 a kf (v + 1), h.2)) (a := a) g4 (by simp [zsr]) (fun i hia => ⟨?_, rfl⟩) ?_ e3
          · unfold zsr
            rw [List.getD_eq_getElem?_getD, List.getElem?_set_ne (Ne.symm hia), ← List.getD_eq_getElem?_getD]
          · have hg : (zsr h.1 a kf (v + 1)).getD a (99, 0, []) = ((h.1.getD a (99, 0, [])).1, (h.1.getD a (99, 0, [])).2.1, (h.1.getD a (99, 0, [])).2.2.set kf (v + 1)) := by
              unfold zsr
              rw [List.getD_eq_getElem?_getD, List.getElem?_set_self ha, Option.getD_some]
            show va_at D zCl (b + a, zce b sc cA ((zsr h.1 a kf (v + 1)).getD a (99, 0, [])) (h.2 a)) H1
            rw [hg]
            rw [show zce b sc cA ((h.1.getD a (99, 0, [])).1, (h.1.getD a (99, 0, [])).2.1, (h.1.getD a (99, 0, [])).2.2.set kf (v + 1)) (h.2 a) = .inr (ci, (List.range (zFk.getD ci []).length).map (zfv b sc ci ((h.1.getD a (99, 0, [])).2.2.set kf (v + 1)) (h.2 a))) by unfold zce; rw [show (h.1.getD a (99, 0, [])).1 = ci from hk1, if_pos (by omega)]]
            rw [← zmap_set (f := zfv b sc ci (h.1.getD a (99, 0, [])).2.2 (h.2 a)) (kf := kf) (v := .ref (zad b sc v))]
            · exact e1
            · intro j hj
              unfold zfv
              congr 3
              rw [List.getD_eq_getElem?_getD, List.getElem?_set_ne (Ne.symm hj), ← List.getD_eq_getElem?_getD]
            · unfold zfv
              rw [if_pos hk2, List.getD_eq_getElem?_getD, List.getElem?_set_self hrl, Option.getD_some]
              rfl
        · rcases List.mem_append.mp hq with hq | hq
          · exact g6 q hq
          · rcases List.mem_singleton.mp hq with rfl; rw [elo]; omega
    · cases eq
  · cases eq
end
