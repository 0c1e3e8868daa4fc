/-! every instruction that is no call and no return -/
theorem zoff_mem {ps : List (Int × Int)} {d x : Int} : Op.lookupswitch.offset ps d x ∈ d :: ps.map (·.2) := by
  induction ps with
  | nil => exact List.mem_cons_self
  | cons a r ih =>
    rw [Op.lookupswitch.offset_cons]
    split
    · exact List.mem_cons_of_mem _ List.mem_cons_self
    · rcases List.mem_cons.mp ih with h | h
      · rw [h]; exact List.mem_cons_self
      · exact List.mem_cons_of_mem _ (List.mem_cons_of_mem _ h)
theorem zjmp_of {pc : Nat} {f : Int} (h : 0 ≤ (pc : Int) + f) : (pc : Int) + f = (zjmp pc f : Int) := by unfold zjmp; omega
section
variable {p : Program} {l : Launch} {e : Env} {R : Room} {s : State} {m : MethodId} {args : Array Value} {below : List Frame} {meth : Method} {c : Code} {Q : State → Prop} {b sc : Nat} {D : va_G} {cA : Nat → ClassId} {k cells slots : Nat} {H : Heap} {locs : List Loc} {lsA : Array Slot} {pc : Nat} {ls st : List ZV} {h : ZH} {r : Nat × List ZV × List ZV × ZH}
abbrev zGo (p : Program) (l : Launch) (e : Env) (R : Room) (s : State) (m : MethodId) (args : Array Value) (below : List Frame) (meth : Method) (c : Code) (Q : State → Prop) (b sc cells slots : Nat) (H : Heap) (locs : List Loc) (lsA : Array Slot) (pc : Nat) (st : List ZV) : Prop := W p l e R s m args below meth c H locs cells slots Q (F0 m pc lsA (st.map (zcv b sc)))
theorem zgi_some {j : Nat} {v : ZV} (h : zgi ls j = some v) : ∃ x, v = zI x ∧ ls[j]? = some (zI x) := by
  unfold zgi at h
  split at h
  · next x hx => cases h; exact ⟨x, rfl, hx⟩
  · cases h
theorem zga_some {j : Nat} {v : ZV} (h : zga ls j = some v) : ∃ x, v = zR x ∧ ls[j]? = some (zR x) := by
  unfold zga at h
  split at h
  · next x hx => cases h; exact ⟨x, rfl, hx⟩
  · cases h
theorem zgl_some {j : Nat} {v : ZV} (h : zgl ls j = some v) : ∃ x, v = zL x ∧ ls[j]? = some (zL x) := by
  unfold zgl at h
  split at h
  · next x hx => cases h; exact ⟨x, rfl, hx⟩
  · cases h
theorem zgd_some {j : Nat} {v : ZV} (h : zgd ls j = some v) : ∃ x, v = zD x ∧ ls[j]? = some (zD x) := by
  unfold zgd at h
  split at h
  · next x hx => cases h; exact ⟨x, rfl, hx⟩
  · cases h
theorem zsi_some {j pc' : Nat} (h' : zsi pc' ls st h j = some r) : ∃ x st0 l', st = zI x :: st0 ∧ zs1 ls j (zI x) = some l' ∧ r = (pc', l', st0, h) := by
  unfold zsi at h'
  split at h'
  · next x st0 =>
    obtain ⟨l', h1, rfl⟩ := Option.map_eq_some_iff.mp h'
    exact ⟨x, st0, l', rfl, h1, rfl⟩
  · cases h'
theorem zsa_some {j pc' : Nat} (h' : zsa pc' ls st h j = some r) : ∃ x st0 l', st = zR x :: st0 ∧ zs1 ls j (zR x) = some l' ∧ r = (pc', l', st0, h) := by
  unfold zsa at h'
  split at h'
  · next x st0 =>
    obtain ⟨l', h1, rfl⟩ := Option.map_eq_some_iff.mp h'
    exact ⟨x, st0, l', rfl, h1, rfl⟩
  · cases h'
theorem zsl_some {j pc' : Nat} (h' : zsl pc' ls st h j = some r) : ∃ x st0 l', st = zL x :: st0 ∧ zs2 ls j (zL x) = some l' ∧ r = (pc', l', st0, h) := by
  unfold zsl at h'
  split at h'
  · next x st0 =>
    obtain ⟨l', h1, rfl⟩ := Option.map_eq_some_iff.mp h'
    exact ⟨x, st0, l', rfl, h1, rfl⟩
  · cases h'
theorem zsd_some {j pc' : Nat} (h' : zsd pc' ls st h j = some r) : ∃ x st0 l', st = zD x :: st0 ∧ zs2 ls j (zD x) = some l' ∧ r = (pc', l', st0, h) := by
  unfold zsd at h'
  split at h'
  · next x st0 =>
    obtain ⟨l', h1, rfl⟩ := Option.map_eq_some_iff.mp h'
    exact ⟨x, st0, l', rfl, h1, rfl⟩
  · cases h'
theorem zbi_some {pc' : Nat} {f : Int → Int → Option Int} (h' : zbi pc' ls st h f = some r) : ∃ x y v st0, st = zI y :: zI x :: st0 ∧ f x y = some v ∧ r = (pc', ls, zI v :: st0, h) := by
  unfold zbi at h'
  split at h'
  · next y x st0 =>
    obtain ⟨v, h1, rfl⟩ := Option.map_eq_some_iff.mp h'
    exact ⟨x, y, v, st0, rfl, h1, rfl⟩
  · cases h'
theorem zbl_some {pc' : Nat} {f : Int64 → Int64 → ZV} (h' : zbl pc' ls st h f = some r) : ∃ x y st0, st = zL y :: zL x :: st0 ∧ r = (pc', ls, f x y :: st0, h) := by
  unfold zbl at h'
  split at h'
  · next y x st0 => cases h'; exact ⟨x, y, st0, rfl, rfl⟩
  · cases h'
theorem zbd_some {pc' : Nat} {f : UInt64 → UInt64 → Option ZV} (h' : zbd pc' ls st h f = some r) : ∃ x y v st0, st = zD y :: zD x :: st0 ∧ f x y = some v ∧ r = (pc', ls, v :: st0, h) := by
  unfold zbd at h'
  split at h'
  · next y x st0 =>
    obtain ⟨v, h1, rfl⟩ := Option.map_eq_some_iff.mp h'
    exact ⟨x, y, v, st0, rfl, h1, rfl⟩
  · cases h'
theorem znan_some {q : UInt64} {v : ZV} (h' : znan q = some v) : vf_n64 q ∧ v = zD q := by
  unfold znan at h'
  split at h'
  · next hh => cases h'; exact ⟨hh, rfl⟩
  · cases h'
theorem zsame (hrel : zRel b sc D cA s k ls h H locs lsA) {ls' : List ZV} {lsA' : Array Slot} (h1 : lv_has lsA' (zmax k) (zlv b sc 0 ls')) (h2 : ls'.length = ls.length) : zRel b sc D cA s k ls' h H locs lsA' := ⟨h1, h2.trans hrel.2.1, hrel.2.2⟩
/-- a branch on one int -/
theorem zW_if (F : zFr p R s m args meth c D cA k) {cd : Jvm.ClassFile.Cond} {off : Int} {x : Int} {st0 : List ZV} (hx : zrg x) (hd : decode (zm k).2.2.1 pc = .ok (.ifCond cd off, 3)) (ho : 0 ≤ (pc : Int) + off)
    (kk : zGo p l e R s m args below meth c Q b sc cells slots H locs lsA (if zcmp cd x 0 = true then zjmp pc off else pc + 3) st0) : zGo p l e R s m args below meth c Q b sc cells slots H locs lsA pc (zI x :: st0) := by
  obtain ⟨hex, hb, -⟩ := F
  have hj := zjmp_of ho
  have h0 := zrg_0
  unfold zcmp at kk
  cases cd
  · refine lv_if_eq (x := Int32.ofInt x) hex hb hd hj (fun q => ?_) (fun q => ?_)
    · rw [← zA_0, zA_eq hx h0] at q
      rw [if_pos (by simpa using q)] at kk
      exact kk
    · rw [← zA_0, zA_eq hx h0] at q
      rw [if_neg (by simpa using q)] at kk
      exact kk
  · refine lv_if_ne (x := Int32.ofInt x) hex hb hd hj (fun q => ?_) (fun q => ?_)
    · rw [← zA_0, zA_eq hx h0] at q
      rw [if_pos (by simpa using q)] at kk
      exact kk
    · rw [← zA_0, zA_eq hx h0] at q
      rw [if_neg (by simpa using q)] at kk
      exact kk
  · refine lv_if_lt (x := Int32.ofInt x) hex hb hd hj (fun q => ?_) (fun q => ?_)
    · rw [← zA_0, zA_lt hx h0] at q
      rw [if_pos (by simpa using q)] at kk
      exact kk
    · rw [← zA_0, zA_lt hx h0] at q
      rw [if_neg (by simpa using q)] at kk
      exact kk
  · refine lv_if_ge (x := Int32.ofInt x) hex hb hd hj (fun q => ?_) (fun q => ?_)
    · rw [← zA_0, zA_le h0 hx] at q
      rw [if_pos (by simpa using q)] at kk
      exact kk
    · rw [← zA_0, zA_le h0 hx] at q
      rw [if_neg (by simpa using q)] at kk
      exact kk
  · refine lv_if_gt (x := Int32.ofInt x) hex hb hd hj (fun q => ?_) (fun q => ?_)
    · rw [← zA_0, zA_lt h0 hx] at q
      rw [if_pos (by simpa using q)] at kk
      exact kk
    · rw [← zA_0, zA_lt h0 hx] at q
      rw [if_neg (by simpa using q)] at kk
      exact kk
  · refine lv_if_le (x := Int32.ofInt x) hex hb hd hj (fun q => ?_) (fun q => ?_)
    · rw [← zA_0, zA_le hx h0] at q
      rw [if_pos (by simpa using q)] at kk
      exact kk
    · rw [← zA_0, zA_le hx h0] at q
      rw [if_neg (by simpa using q)] at kk
      exact kk
/-- a branch on two ints -/
theorem zW_icmp (F : zFr p R s m args meth c D cA k) {cd : Jvm.ClassFile.Cond} {off : Int} {x y : Int} {st0 : List ZV} (hx : zrg x) (hy : zrg y) (hd : decode (zm k).2.2.1 pc = .ok (.if_icmp cd off, 3)) (ho : 0 ≤ (pc : Int) + off)
    (kk : zGo p l e R s m args below meth c Q b sc cells slots H locs lsA (if zcmp cd x y = true then zjmp pc off else pc + 3) st0) : zGo p l e R s m args below meth c Q b sc cells slots H locs lsA pc (zI y :: zI x :: st0) := by
  obtain ⟨hex, hb, -⟩ := F
  have hj := zjmp_of ho
  unfold zcmp at kk
  cases cd
  · refine lv_icmp_eq (x := Int32.ofInt x) (y := Int32.ofInt y) hex hb hd hj (fun q => ?_) (fun q => ?_)
    · rw [zA_eq hx hy] at q
      rw [if_pos (by simpa using q)] at kk
      exact kk
    · rw [zA_eq hx hy] at q
      rw [if_neg (by simpa using q)] at kk
      exact kk
  · refine lv_icmp_ne (x := Int32.ofInt x) (y := Int32.ofInt y) hex hb hd hj (fun q => ?_) (fun q => ?_)
    · rw [zA_eq hx hy] at q
      rw [if_pos (by simpa using q)] at kk
      exact kk
    · rw [zA_eq hx hy] at q
      rw [if_neg (by simpa using q)] at kk
      exact kk
  · refine lv_icmp_lt (x := Int32.ofInt x) (y := Int32.ofInt y) hex hb hd hj (fun q => ?_) (fun q => ?_)
    · rw [zA_lt hx hy] at q
      rw [if_pos (by simpa using q)] at kk
      exact kk
    · rw [zA_lt hx hy] at q
      rw [if_neg (by simpa using q)] at kk
      exact kk
  · refine lv_icmp_ge (x := Int32.ofInt x) (y := Int32.ofInt y) hex hb hd hj (fun q => ?_) (fun q => ?_)
    · rw [zA_le hy hx] at q
      rw [if_pos (by simpa using q)] at kk
      exact kk
    · rw [zA_le hy hx] at q
      rw [if_neg (by simpa using q)] at kk
      exact kk
  · refine lv_icmp_gt (x := Int32.ofInt x) (y := Int32.ofInt y) hex hb hd hj (fun q => ?_) (fun q => ?_)
    · rw [zA_lt hy hx] at q
      rw [if_pos (by simpa using q)] at kk
      exact kk
    · rw [zA_lt hy hx] at q
      rw [if_neg (by simpa using q)] at kk
      exact kk
  · refine lv_icmp_le (x := Int32.ofInt x) (y := Int32.ofInt y) hex hb hd hj (fun q => ?_) (fun q => ?_)
    · rw [zA_le hx hy] at q
      rw [if_pos (by simpa using q)] at kk
      exact kk
    · rw [zA_le hx hy] at q
      rw [if_neg (by simpa using q)] at kk
      exact kk
end
