/-! arrays: loads, stores, lengths, new ones; new objects -/
section
variable {p : Program} {l : Launch} {e : Env} {R : Room} {s : State} {m : MethodId} {args : Array Value} {below : List Frame} {meth : Method} {c : Code} {Q : State → Prop} {b sc : Nat} {D : va_G} {cA : Nat → ClassId} {k cells slots : Nat} {H : Heap} {locs : List Loc} {lsA : Array Slot} {pc : Nat} {ls st : List ZV} {h : ZH} {r : Nat × List ZV × List ZV × ZH}
theorem zce_arr {c : Nat × Nat × List Nat} {f : Int → Int} {kd : Nat} (hk : c.1 = kd) (h1 : 20 ≤ kd) (h2 : kd < 23) : zce b sc cA c f = .inl (cA kd, (c.2.1, .inl (fun j => Int32.ofInt (f j)))) := by
  unfold zce
  rw [hk, if_neg (by omega), if_pos h2]
theorem zce_ref {c : Nat × Nat × List Nat} {f : Int → Int} {kd : Nat} (hk : c.1 = kd) (h1 : 23 ≤ kd) : zce b sc cA c f = .inl (cA kd, (c.2.1, .inr (.inr (.inr (.inr (fun j => zro b sc (c.2.2.getD j 0))))))) := by
  unfold zce
  rw [hk, if_neg (by omega), if_neg (by omega)]
theorem zset_get {rs : List Nat} {j v : Nat} (hj : j < rs.length) (y : Nat) : (rs.set j v).getD y 0 = if y = j then v else rs.getD y 0 := by
  rw [List.getD_eq_getElem?_getD, List.getD_eq_getElem?_getD]
  by_cases hy : y = j
  · rw [if_pos hy, hy, List.getElem?_set_self hj, Option.getD_some]
  · rw [if_neg hy, List.getElem?_set_ne (Ne.symm hy)]
theorem zty_at {kd t0 : Nat} {ty : FieldType} (h : (zTy cA)[t0]? = some (cA kd, ty)) (hK : zK D cA s) : ArrOfT s (cA kd) ty ∧ va_RA s (cA kd) ty := hK.1.2 t0 _ h
theorem zW_ald {i : Instr} {kd t0 : Nat} {ty : FieldType} (F : zFr p R s m args meth c D cA k) (hrel : zRel b sc D cA s k ls h H locs lsA) (hi : zinv h) (hkd : 20 ≤ kd ∧ kd < 23) (hty : (zTy cA)[t0]? = some (cA kd, ty))
    (row : ∀ {a n : Nat} {f : Nat → Int32} {j : Int32} {rest : List Value} (q0 : Nat), (zws b sc cA h)[q0]? = some (a, .inl (cA kd, n, .inl f)) → vp_in j n → W p l e R s m args below meth c H locs cells slots Q (F0 m (pc + 1) lsA (.int (f j.toNatClampNeg) :: rest)) → W p l e R s m args below meth c H locs cells slots Q (F0 m pc lsA (.int j :: .ref a :: rest)))
    (eq : zald kd (pc + 1) ls st h = some r) (kk : zKK p l e R s m args below meth c Q b sc D cA k cells slots h r) : W p l e R s m args below meth c H locs cells slots Q (F0 m pc lsA (st.map (zcv b sc))) := by
  unfold zald at eq
  split at eq
  · next j a st =>
    split at eq
    · next hk =>
      cases eq
      have ha : a < h.1.length := zkn_lt (by rw [hk.1]; omega)
      have hln : zln h.1 a ≤ 1000 := (hi.1 _ (zget_mem ha)).2.2.2
      obtain ⟨v1, v2⟩ := zA_in (n := zln h.1 a) hk.2.1 hk.2.2 (by omega)
      show W p l e R s m args below meth c H locs cells slots Q (F0 m pc lsA (.int (Int32.ofInt j) :: .ref (zad b sc a) :: st.map (zcv b sc)))
      rw [zad_of ha hi.2.2]
      refine row (n := zln h.1 a) (f := fun j => Int32.ofInt (h.2 a j)) a ((zws_at ha).trans (by rw [zce_arr hk.1 hkd.1 hkd.2]; rfl)) v1 ?_
      have := kk H locs lsA cells slots hrel rfl rfl
      rw [v2, show ((j.toNat : Nat) : Int) = j by omega]
      exact this
    · cases eq
  · cases eq
theorem zW_sld (F : zFr p R s m args meth c D cA k) (hrel : zRel b sc D cA s k ls h H locs lsA) (hi : zinv h) (hd : decode (zm k).2.2.1 pc = .ok (.iaload, 1)) (eq : zsld (pc + 1) ls st h = some r) (kk : zKK p l e R s m args below meth c Q b sc D cA k cells slots h r) : W p l e R s m args below meth c H locs cells slots Q (F0 m pc lsA (st.map (zcv b sc))) := by
  unfold zsld at eq
  split at eq
  · next j a st =>
    split at eq
    · next ha =>
      split at eq
      · next hj =>
        cases eq
        obtain ⟨L, xs, h1, h2, h3, h4⟩ := hrel.2.2.2.2.2.2
        obtain ⟨v1, v2⟩ := zA_in (n := L) hj.1 (by omega) (by omega)
        obtain ⟨scr, s1, s2, s3, s4, s5⟩ := h1
        show W p l e R s m args below meth c H locs cells slots Q (F0 m pc lsA (.int (Int32.ofInt j) :: .ref (zad b sc a) :: st.map (zcv b sc)))
        rw [show zad b sc a = sc by unfold zad; rw [if_pos ha]]
        refine W.iald (v := .int (xs j.toNat)) F.1 F.2.1 s1 s2 s3 (by rw [s4]; exact v1) (by rw [v2]; exact s5 _ (by omega)) rfl rfl hd ?_
        have := kk H locs lsA cells slots hrel rfl rfl
        have e1 : h.2 zSC j = (xs j.toNat).toInt := by rw [← h4 j.toNat (by omega), show ((j.toNat : Nat) : Int) = j by omega]
        rw [← zA_i (xs j.toNat), ← e1]
        exact this
      · cases eq
    · cases eq
  · cases eq
theorem zW_ast {kd t0 : Nat} {ty : FieldType} {ok : Int → Bool} (F : zFr p R s m args meth c D cA k) (hrel : zRel b sc D cA s k ls h H locs lsA) (hi : zinv h) (hs : zoks st) (hkd : 20 ≤ kd ∧ kd < 23) (hty : (zTy cA)[t0]? = some (cA kd, ty)) (hok : ∀ x, zrg x → ok x = true → narrow ty (.int (Int32.ofInt x)) = .int (Int32.ofInt x))
    (row : ∀ {a : Nat} {cell : Cell} {j x : Int32} {rest : List Value}, H[a]? = some cell → s.isArrayOf cell ty → cell.vm ≠ .unknown → ¬ (j < 0 ∨ cell.slots.size ≤ j.toNatClampNeg) → (∀ H' : Heap, H'[a]? = some (cell.setSlot j.toNatClampNeg (narrow ty (.int x))) → H'.size = H.size → (∀ q, q ≠ a → H'[q]? = H[q]?) → W p l e R s m args below meth c H' (locs ++ [⟨a, j.toNatClampNeg⟩]) cells slots Q (F0 m (pc + 1) lsA rest)) → W p l e R s m args below meth c H locs cells slots Q (F0 m pc lsA (.int x :: .int j :: .ref a :: rest)))
    (eq : zast kd (pc + 1) ls st h ok = some r) (kk : zKK p l e R s m args below meth c Q b sc D cA k cells slots h r) : W p l e R s m args below meth c H locs cells slots Q (F0 m pc lsA (st.map (zcv b sc))) := by
  obtain ⟨g1, g2, ⟨g3, g4⟩, g5, g6, g7, g8⟩ := hrel
  unfold zast at eq
  split at eq
  · next x j a st =>
    split at eq
    · next hk =>
      cases eq
      obtain ⟨hk1, hk2, hk3⟩ := hk
      have hxr : zrg x := (zoks_c hs).1
      have ha : a < h.1.length := zkn_lt (by rw [hk1]; omega)
      have hln : zln h.1 a ≤ 1000 := (hi.1 _ (zget_mem ha)).2.2.2
      obtain ⟨v1, v2⟩ := zA_in (n := zln h.1 a) hk2.1 hk2.2 (by omega)
      show W p l e R s m args below meth c H locs cells slots Q (F0 m pc lsA (.int (Int32.ofInt x) :: .int (Int32.ofInt j) :: .ref (zad b sc a) :: st.map (zcv b sc)))
      rw [zad_of ha hi.2.2]
      have hc := g4 a _ (zws_at ha)
      rw [zce_arr hk1 hkd.1 hkd.2] at hc
      have hc : H[b + a]? = some (arrV (cA kd) (zln h.1 a) (fun j => .int (Int32.ofInt (h.2 a j)))) := hc
      refine row hc ((zty_at hty F.2.2.2.2.2.1).1 _ _) (fun q => by cases q) (by rw [arrV_size]; exact v1) fun H1 e1 e2 e3 => ?_
      rw [hok x hxr hk3, arrV_store, v2] at e1
      refine kk H1 _ lsA cells slots ⟨g1, g2, ⟨by rw [e2]; exact g3, ?_⟩, fun q hq => by rw [e3 q (by omega)]; exact g5 q hq, fun q hq => ?_, g7, zX_kept g8 (e3 sc (by omega)) (fun i => ?_)⟩ rfl rfl
      · refine zP_upd (a := a) g4 rfl (fun i hia => ⟨rfl, ?_⟩) ?_ e3
        · funext y
          show zwr h.2 a j x i y = h.2 i y
          unfold zwr
          rw [if_neg (fun q => hia q.1)]
        · show va_at D zCl (b + a, zce b sc cA (h.1.getD a (99, 0, [])) (zwr h.2 a j x a)) H1
          rw [zce_arr hk1 hkd.1 hkd.2]
          show H1[b + a]? = some (arrV (cA kd) (zln h.1 a) (fun y => .int (Int32.ofInt (zwr h.2 a j x a y))))
          rw [e1]
          congr 2
          funext y
          unfold updV zwr
          by_cases hy : y = j.toNat
          · rw [if_pos hy, if_pos ⟨rfl, by omega⟩]
          · rw [if_neg hy, if_neg (fun q => hy (by omega))]
      · rcases List.mem_append.mp hq with hq | hq
        · exact g6 q hq
        · rcases List.mem_singleton.mp hq with rfl; show b ≤ b + a; omega
      · show zwr h.2 a j x zSC i = _
        unfold zwr
        rw [if_neg (fun q => by have := q.1; have := hi.2.2; unfold zSC at *; omega)]
    · cases eq
  · cases eq
theorem zrf_va (b sc q : Nat) : va_rf (zro b sc (q + 1)) = .ref (zad b sc q) := rfl
theorem zW_aal (F : zFr p R s m args meth c D cA k) (hrel : zRel b sc D cA s k ls h H locs lsA) (hi : zinv h) (hd : decode (zm k).2.2.1 pc = .ok (.aaload, 1)) (eq : zaal (pc + 1) ls st h = some r) (kk : zKK p l e R s m args below meth c Q b sc D cA k cells slots h r) : W p l e R s m args below meth c H locs cells slots Q (F0 m pc lsA (st.map (zcv b sc))) := by
  unfold zaal at eq
  split at eq
  · next j a st =>
    split at eq
    · next hk =>
      split at eq
      · cases eq
      · next q hq =>
        cases eq
        obtain ⟨hk1, hk2⟩ := hk
        have ha : a < h.1.length := zkn_lt (by rcases hk1 with z | z <;> omega)
        have hln : zln h.1 a ≤ 1000 := (hi.1 _ (zget_mem ha)).2.2.2
        obtain ⟨v1, v2⟩ := zA_in (n := zln h.1 a) hk2.1 hk2.2 (by omega)
        show W p l e R s m args below meth c H locs cells slots Q (F0 m pc lsA (.int (Int32.ofInt j) :: .ref (zad b sc a) :: st.map (zcv b sc)))
        rw [zad_of (b := b) (sc := sc) ha hi.2.2]
        have hc := hrel.2.2.1.2 a _ (zws_at ha)
        have key : ∀ (kd t0 : Nat) (ty : FieldType), zkn h.1 a = kd → 23 ≤ kd → (zTy cA)[t0]? = some (cA kd, ty) → ty.isReference = true → W p l e R s m args below meth c H locs cells slots Q (F0 m pc lsA (.int (Int32.ofInt j) :: .ref (b + a) :: st.map (zcv b sc))) := by
          intro kd t0 ty hkk h23 hty hrf
          rw [zce_ref hkk h23] at hc
          have hc : H[b + a]? = some (arrV (cA kd) (zln h.1 a) (fun j => va_rf (zro b sc ((h.1.getD a (99, 0, [])).2.2.getD j 0)))) := hc
          refine W.aald (v := .ref (zad b sc q)) F.1 F.2.1 hc ((zty_at hty F.2.2.2.2.2.1).1 _ _) hrf (fun q => by cases q) (by rw [arrV_size]; exact v1) ?_ rfl rfl hd (kk H locs lsA cells slots hrel rfl rfl)
          rw [v2, arrV_read _ _ (by omega), show (h.1.getD a (99, 0, [])).2.2.getD j.toNat 0 = q + 1 from hq]
          rfl
        rcases hk1 with z | z
        · exact key 23 3 _ z (by decide) rfl rfl
        · exact key 24 4 _ z (by decide) rfl rfl
    · cases eq
  · cases eq
theorem zW_aas (F : zFr p R s m args meth c D cA k) (hrel : zRel b sc D cA s k ls h H locs lsA) (hi : zinv h) (hd : decode (zm k).2.2.1 pc = .ok (.aastore, 1)) (eq : zaas (pc + 1) ls st h = some r) (kk : zKK p l e R s m args below meth c Q b sc D cA k cells slots h r) : W p l e R s m args below meth c H locs cells slots Q (F0 m pc lsA (st.map (zcv b sc))) := by
  obtain ⟨g1, g2, ⟨g3, g4⟩, g5, g6, g7, g8⟩ := hrel
  unfold zaas at eq
  split at eq
  · next v j a st =>
    split at eq
    · next hk =>
      cases eq
      obtain ⟨hk1, hk2, hk3⟩ := hk
      have ha : a < h.1.length := zkn_lt (by omega)
      have hv : v < h.1.length := zkn_lt (by omega)
      have hln : zln h.1 a ≤ 1000 := (hi.1 _ (zget_mem ha)).2.2.2
      obtain ⟨v1, v2⟩ := zA_in (n := zln h.1 a) hk3.1 hk3.2 (by omega)
      show W p l e R s m args below meth c H locs cells slots Q (F0 m pc lsA (.ref (zad b sc v) :: .int (Int32.ofInt j) :: .ref (zad b sc a) :: st.map (zcv b sc)))
      rw [zad_of (b := b) (sc := sc) ha hi.2.2, zad_of (b := b) (sc := sc) hv hi.2.2]
      have hc := g4 a _ (zws_at ha)
      rw [zce_ref hk1 (by decide)] at hc
      have hc : H[b + a]? = some (arrV (cA 23) (zln h.1 a) (fun j => va_rf (zro b sc ((h.1.getD a (99, 0, [])).2.2.getD j 0)))) := hc
      have hcv := g4 v _ (zws_at hv)
      rw [show zce b sc cA (h.1.getD v (99, 0, [])) (h.2 v) = .inr (1, (List.range (zFk.getD 1 []).length).map (zfv b sc 1 (h.1.getD v (99, 0, [])).2.2 (h.2 v))) by unfold zce; rw [show (h.1.getD v (99, 0, [])).1 = 1 from hk2, if_pos (by decide)]] at hcv
      obtain ⟨r', hr', cellV, w1, w2, w3, -⟩ := hcv
      have hcls := (F.2.2.2.2.2.1.1.1 1 _ (zCl_at (by decide))).2
      obtain ⟨kA, comp, k1, k2, k3, -⟩ := (zty_at (cA := cA) (kd := 23) (t0 := 3) rfl F.2.2.2.2.2.1).2
      have hcomp : comp = D.1 1 := Option.some.inj (k3.symm.trans hcls.1)
      subst hcomp
      obtain ⟨kC, hkC, -⟩ := hcls.2
      have hrl : j.toNat < (h.1.getD a (99, 0, [])).2.2.length := by
        have := hi.1 _ (zget_mem ha)
        rw [this.1]
        have : j.toNat < zln h.1 a := by omega
        exact this
      refine W.aast F.1 F.2.1 hc (fun q h => by cases h) (fun h => by cases h) k1 k2 rfl hkC ⟨fun q => v1 (Or.inl q), by rw [arrV_size]; exact Nat.not_le.mp fun q => v1 (Or.inr q)⟩ w1 (fun q h => by rw [w3] at h; cases h) (by rw [w2]; exact hkC) (by rw [w2]; exact va_assign hcls) rfl rfl hd fun H1 e1 e2 e3 => ?_
      have e3 : ∀ q : Nat, q ≠ b + a → H1[q]? = H[q]? := e3
      rw [arrV_store, v2] at e1
      refine kk H1 _ lsA cells slots ⟨g1, g2, ⟨by rw [e2, g3]; simp [zsr], ?_⟩, fun q hq => by rw [e3 q (by omega)]; exact g5 q hq, fun q hq => ?_, g7, zX_kept g8 (e3 sc (by omega)) (fun i => rfl)⟩ (by simp [zsr]) (by rw [show ztot (zsr h.1 a j.toNat (v + 1)) = ztot h.1 from ztot_set rfl])
      · refine zP_upd (h := h) (h' := (zsr h.1 a j.toNat (v + 1), h.2)) (a := a) g4 (by simp [zsr]) (fun i hia => ⟨?_, rfl⟩) ?_ e3
        · unfold zsr
          rw [List.getD_eq_getElem?_getD, List.getElem?_set_ne (Ne.symm hia), ← List.getD_eq_getElem?_getD]
        · have hg : (zsr h.1 a j.toNat (v + 1)).getD a (99, 0, []) = ((h.1.getD a (99, 0, [])).1, (h.1.getD a (99, 0, [])).2.1, (h.1.getD a (99, 0, [])).2.2.set j.toNat (v + 1)) := by
            unfold zsr
            rw [List.getD_eq_getElem?_getD, List.getElem?_set_self ha, Option.getD_some]
          show va_at D zCl (b + a, zce b sc cA ((zsr h.1 a j.toNat (v + 1)).getD a (99, 0, [])) (h.2 a)) H1
          rw [hg, zce_ref (kd := 23) (c := ((h.1.getD a (99, 0, [])).1, (h.1.getD a (99, 0, [])).2.1, (h.1.getD a (99, 0, [])).2.2.set j.toNat (v + 1))) hk1 (by decide)]
          show H1[b + a]? = some (arrV (cA 23) (zln h.1 a) (fun y => va_rf (zro b sc (((h.1.getD a (99, 0, [])).2.2.set j.toNat (v + 1)).getD y 0))))
          rw [e1]
          congr 2
          funext y
          unfold updV
          by_cases hy : y = j.toNat
          · rw [if_pos hy, zset_get hrl, if_pos hy]
            show Value.ref (b + v) = .ref (zad b sc v)
            rw [zad_of (b := b) (sc := sc) hv hi.2.2]
          · rw [if_neg hy, zset_get hrl, if_neg hy]
      · rcases List.mem_append.mp hq with hq | hq
        · exact g6 q hq
        · rcases List.mem_singleton.mp hq with rfl; show b ≤ b + a; omega
    · cases eq
  · cases eq
theorem zW_alen (F : zFr p R s m args meth c D cA k) (hrel : zRel b sc D cA s k ls h H locs lsA) (hi : zinv h) (hd : decode (zm k).2.2.1 pc = .ok (.arraylength, 1)) (eq : zalen (pc + 1) ls st h = some r) (kk : zKK p l e R s m args below meth c Q b sc D cA k cells slots h r) : W p l e R s m args below meth c H locs cells slots Q (F0 m pc lsA (st.map (zcv b sc))) := by
  unfold zalen at eq
  split at eq
  · next a st =>
    show W p l e R s m args below meth c H locs cells slots Q (F0 m pc lsA (.ref (zad b sc a) :: st.map (zcv b sc)))
    split at eq
    · next ha =>
      split at eq
      · cases eq
        obtain ⟨L, xs, h1, h2, h3, h4⟩ := hrel.2.2.2.2.2.2
        obtain ⟨scr, s1, s2, s3, s4, s5⟩ := h1
        rw [show zad b sc a = sc by unfold zad; rw [if_pos ha]]
        refine W.alen (n := Int32.ofInt (h.2 zSC (-1) - 1)) F.1 F.2.1 s1 s2 ?_ rfl rfl hd (kk H locs lsA cells slots hrel rfl rfl)
        rw [s4, h3, show (L : Int) + 1 - 1 = L by omega]
        rfl
      · cases eq
    · split at eq
      · next hk =>
        cases eq
        have ha : a < h.1.length := zkn_lt (by omega)
        rw [zad_of (b := b) (sc := sc) ha hi.2.2]
        have hc := hrel.2.2.1.2 a _ (zws_at ha)
        have key : ∀ (kd t0 : Nat) (ty : FieldType), zkn h.1 a = kd → 20 ≤ kd → (zTy cA)[t0]? = some (cA kd, ty) → W p l e R s m args below meth c H locs cells slots Q (F0 m pc lsA (.ref (b + a) :: st.map (zcv b sc))) := by
          intro kd t0 ty hkk h20 hty
          by_cases h23 : kd < 23
          · rw [zce_arr hkk h20 h23] at hc
            have hc : H[b + a]? = some (arrV (cA kd) (zln h.1 a) (fun j => .int (Int32.ofInt (h.2 a j)))) := hc
            refine W.alen (n := Int32.ofInt (zln h.1 a)) F.1 F.2.1 hc ((zty_at hty F.2.2.2.2.2.1).1 _ _) ?_ rfl rfl hd (kk H locs lsA cells slots hrel rfl rfl)
            rw [arrV_size]
            rfl
          · rw [zce_ref hkk (by omega)] at hc
            have hc : H[b + a]? = some (arrV (cA kd) (zln h.1 a) (fun j => va_rf (zro b sc ((h.1.getD a (99, 0, [])).2.2.getD j 0)))) := hc
            refine W.alen (n := Int32.ofInt (zln h.1 a)) F.1 F.2.1 hc ((zty_at hty F.2.2.2.2.2.1).1 _ _) ?_ rfl rfl hd (kk H locs lsA cells slots hrel rfl rfl)
            rw [arrV_size]
            rfl
        have h5 : zkn h.1 a = 20 ∨ zkn h.1 a = 21 ∨ zkn h.1 a = 22 ∨ zkn h.1 a = 23 ∨ zkn h.1 a = 24 := by omega
        rcases h5 with z | z | z | z | z
        · exact key 20 0 _ z (by decide) rfl
        · exact key 21 1 _ z (by decide) rfl
        · exact key 22 2 _ z (by decide) rfl
        · exact key 23 3 _ z (by decide) rfl
        · exact key 24 4 _ z (by decide) rfl
      · cases eq
  · cases eq
end
