/-! THE CLAIM OUT OF ONE WALK OF THE LAW'S BODY. Your part is whole_start (and what it stands on); all else here is the same for every law, but numbers. -/
def R_law : String := "DungeonBuilderLaw"
def lw_P (b : Addr) (xs : List Int32) (args : Array Value) (s : State) : Prop := args = #[.ref b] ∧ s.IntsAt b xs ∧ xs.length ≤ 2560 ∧ (Jvm.Cond.and given_1 narrow_1).before args s = true
/-- what a walk over the start with the record d0 says of its end, said of the start itself -/
theorem lw_closed {s t : State} {o : Outcome} {d0 : Drawn} {L : List Loc} {k n : Nat} (hd0 : s.drawn.sameBut d0 lw_cs) (hv : ∃ v, o = .returned v) (hW : (s.setDrawn d0).WarmedH t.vm) (hs : (s.setDrawn d0).sameButNew ({ t with vm := s.vm } : State) L k n) : State.butDraws s t lw_cs (fun t1 => Framed s o t1 L k n) := by
  have h2 : t.drawn = d0 := congrArg State.drawn hs.1
  refine ⟨⟨hv, hW, State.sameButNew.setDrawn hs s.drawn⟩, ?_, by decide⟩
  rw [h2]
  exact hd0
def lw_Q (_ : Array Value) (s : State) (o : Outcome) (t : State) : Prop := o = .returned (some (.int 1)) ∧ State.butDraws s t lw_cs (fun t1 => Framed s o t1 [] 600000 7302250)
def lw_Z (below : List Frame) (a : Array Value) (s : State) : State → Prop := fun t => ∃ o, t.status = .running ∧ Ended t below o ∧ lw_Q a s o t
/-- the law's own end, with 1 on the stack, nothing written that was there before, its room as the claim has it; d0: the record of draws at this point (at the entry s.drawn: begin with 'refine W.base ?_' and 'have hd0 := Drawn.sameBut.refl s.drawn lw_cs') -/
theorem lw_ret {p : Program} {l : Launch} {e : Env} {s : State} {m : MethodId} {below : List Frame} {meth : Method} {c : Code} {b : Nat} {d0 : Drawn} (hd0 : s.drawn.sameBut d0 lw_cs) (hx : p.tables.exec = Jvm.exec) (hb : c.code = code) (hr : meth.sig.returnType = ret) (hlocks : meth.locks = false) {pc : Nat} {H : Heap} {ls : Array Slot} (hdg : decode code pc = .ok (.ireturn, 1)) : W p l e room_1 (s.setDrawn d0) m #[Value.ref b] below meth c H [] 600000 7302250 (lw_Z below #[Value.ref b] s) (F0 m pc ls [.int 1]) := by
  intro T hT X
  obtain ⟨fs, hret, hrun, hended, hW, hframe⟩ := X.leave (v := some (.int 1)) (hlocks := hlocks) (fun h => by rw [hr] at h; cases h)
  have hmeth' : T.vm.method? m = some meth := X.method'
  refine ⟨T.setFrames fs, ?_, .returned (some (.int 1)), hrun, hended, rfl, lw_closed hd0 ⟨_, rfl⟩ hW hframe⟩
  jvm_step X.here [X.here.top, hx, hb, hdg, hmeth', hr, ret, narrow_b1]
  (try refine ⟨rfl, ?_⟩); (try refine ⟨rfl, ?_⟩)
  first | (intro acts; rw [hret _ acts rfl rfl rfl]) | rw [hret _ _ rfl rfl rfl]
  exact Steps.refl _
/-- what holds at the law's entry: the machine, the code, the tables' words (any of lw_tbl by 'hts w (by decide +kernel)'), the script of L ints xs at the cell b, what the Statement gives of the start (any of its parts by flat_of_before) -/
def lw_At (p : Program) (s : State) (m : MethodId) (meth : Method) (c : Code) (b L : Nat) (xs : Nat → Int32) : Prop :=
  p.tables.exec = Jvm.exec ∧ c.code = code ∧ meth.sig.returnType = ret ∧ c.maxLocals = 4 ∧ s.vm.findClass R_law = some m.cls ∧ (∀ w ∈ lw_tbl, w.before #[Value.ref b] s = true) ∧ va_X b L xs s s.heap ∧ b < s.heap.size ∧ meth.locks = false ∧ (Jvm.Cond.and given_1 narrow_1).before #[Value.ref b] s = true

/-! the law's walk, out of a run of the numbers' machine -/
def zM0 (L : Nat) (xs : Nat → Int32) : ZM := fun a j => if a = zSC then (if j = -1 then (L : Int) + 1 else if 0 ≤ j ∧ j < L then (xs j.toNat).toInt else 0) else 0
/-- what is left to prove of numbers -/
def zPure : Prop := ∀ (L : Nat) (xs : Nat → Int32), L ≤ 2560 → ∃ (n : Nat) (h1 : ZH), zrn (zevl 60) 255 n 0 [zR zSC, zU, zU, zU] [] ([], zM0 L xs) = some (some (zI 1), h1) ∧ h1.1.length ≤ 600000 ∧ ztot h1.1 ≤ 7302250
theorem zinst_ok : ∀ ci, ci < 11 → zin (.instantiable (zC ci) (zN ci)) = true := by decide +kernel
theorem zK_start {s : State} {args : Array Value} (hts : ∀ w ∈ lw_tbl, w.before args s = true) : ∃ (D : va_G) (cA : Nat → ClassId), zK D cA s := by
  have hts2 : ∀ w ∈ zWs, w.before args s = true := fun w hw => hts w (List.mem_filter.mp hw).1
  have hc : ∀ ci, ∃ (cC : ClassId) (iS : Nat → Nat), ci < 11 → u_Kn s (zC ci) (zT ci) (zN ci) cC iS := by
    intro ci
    by_cases h : ci < 11
    · obtain ⟨cC, iS, h1⟩ := u_known hts2 (zu_in h) (hts2 _ (zwk_of (zinst_ok ci h)))
      exact ⟨cC, iS, fun _ => h1⟩
    · exact ⟨0, fun _ => 0, fun q => absurd q h⟩
  have harr : ∀ ty, Cond.arrayClass ty ∈ zWs → (∀ C, ty ≠ .object C) → ∃ cA, ArrOfT s cA ty ∧ va_RA s cA ty := by
    intro ty hw hno
    obtain ⟨c, k, comp, h1, h2, h3⟩ := Cond.arrayClass_spec (hts2 _ hw)
    refine ⟨c, fun n z => ⟨fun k h => (by cases h), k, h2, comp, h3⟩, ?_⟩
    unfold va_RA
    split
    · exact absurd rfl (hno _)
    · exact h1
  have haw := zAn_ok
  simp only [Bool.and_eq_true, decide_eq_true_eq] at haw
  obtain ⟨a0, p0, q0⟩ := harr .int (zwk_of (by decide +kernel)) (fun C q => by cases q)
  obtain ⟨a1, p1, q1⟩ := harr .char (zwk_of (by decide +kernel)) (fun C q => by cases q)
  obtain ⟨a2, p2, q2⟩ := harr .boolean (zwk_of (by decide +kernel)) (fun C q => by cases q)
  obtain ⟨m0, a3, k3, r1, r2, r3, r4, r5⟩ := Cond.arrayOver_spec (hts _ haw.1.2)
  obtain ⟨m1, a4, k4, t1, t2, t3, t4, t5⟩ := arrayOverA_spec (hts _ haw.2)
  refine ⟨(fun ci => Classical.choose (hc ci), fun ci => Classical.choose (Classical.choose_spec (hc ci))), fun kd => if kd = 20 then a0 else if kd = 21 then a1 else if kd = 22 then a2 else if kd = 23 then a3 else a4, ⟨fun ci q hq => ?_, fun k q hq => ?_⟩, fun w hw => ?_, va_AO.of (hts _ haw.1.2), hts _ haw.2⟩
  · have hci : ci < 11 := (List.getElem?_eq_some_iff.mp hq).1
    rw [zCl_at hci] at hq
    cases hq
    exact Classical.choose_spec (Classical.choose_spec (hc ci)) hci
  · match k, hq with
    | 0, hq => cases hq; exact ⟨p0, q0⟩
    | 1, hq => cases hq; exact ⟨p1, q1⟩
    | 2, hq => cases hq; exact ⟨p2, q2⟩
    | 3, hq =>
      cases hq
      exact ⟨fun n z => ⟨fun k h => (by cases h), k3, r3, m0, r4⟩, k3, m0, r3, r4, r1, r5⟩
    | 4, hq =>
      cases hq
      exact ⟨fun n z => ⟨fun k h => (by cases h), k4, t3, m1, t4⟩, t5⟩
    | k + 5, hq => simp [zTy] at hq
  · have h1 := hts w (List.mem_filter.mp hw).1
    have h2 := (List.mem_filter.mp hw).2
    revert h1
    cases w <;> first | exact fun h1 => va_Nw.of rfl h1 | cases h2
theorem zM0_inv (L : Nat) (xs : Nat → Int32) (hL : L ≤ 2560) : zinv ([], zM0 L xs) := by
  refine ⟨fun c hc => (List.not_mem_nil hc).elim, fun a i => ?_, Nat.zero_le _⟩
  show zrg (zM0 L xs a i)
  unfold zM0
  split
  · split
    · exact ⟨by omega, by omega⟩
    · split
      · exact zrg_i _
      · exact zrg_0
  · exact zrg_0
theorem whole_of (H0 : zPure) {p : Program} {e : Env} {s : State} {m : MethodId} {below : List Frame} {meth : Method} {c : Code} (l : Launch) (hflags : l.flags = flags0) {b L : Nat} {xs : Nat → Int32} (hL : L ≤ 2560) (C0 : lw_At p s m meth c b L xs) : W p l e room_1 s m #[Value.ref b] below meth c s.heap [] 0 0 (lw_Z below #[Value.ref b] s) (entryFrame m ([Value.ref b] : List Value).toArray 4) := by
  obtain ⟨hx, hb, hr, hml, hown, hts, hX, hbl, hlocks, hgv⟩ := C0
  obtain ⟨n, h1, hn, hl1, hl2⟩ := H0 L xs hL
  obtain ⟨D, cA, hK⟩ := zK_start hts
  have hts2 : ∀ w ∈ zWs, w.before #[Value.ref b] s = true := fun w hw => hts w (List.mem_filter.mp hw).1
  have hl := lv_entry ([.ref b]) (n := 4) (Nat.le_of_ble_eq_true rfl)
  rw [lg_entry_eq]
  generalize (lg_sl ([.ref b]) ++ List.replicate (4 - (lg_sl ([.ref b])).length) Slot.unset).toArray = ls at hl ⊢
  have hl : lv_has ls 4 [(0, .ref b)] := hl
  have F : zFr p room_1 s m #[Value.ref b] meth c D cA 255 := ⟨hx, hb, hml, hown, hts2, hK, fun q => absurd q (by decide +kernel), by decide, by decide⟩
  have hz : zad s.heap.size b zSC = b := by unfold zad; rw [if_pos rfl]
  refine zrn_W (k := 255) (d := 60) (cF := h1.1.length) (sF := ztot h1.1) (b := s.heap.size) (sc := b) (D := D) (cA := cA) (cal := zevl 60) (v := some (zI 1)) (h1 := h1) (zevl_S l 60) (zevl_keep 60) (by decide) F (by decide) hl1 hl2 ?_ n 0 [zR zSC, zU, zU, zU] [] ([], zM0 L xs) s.heap [] ls 0 0 hn ⟨?_, rfl, ⟨rfl, fun k q h => by simp [zws] at h⟩, fun _ _ => rfl, fun q hq => (List.not_mem_nil hq).elim, hbl, L, xs, hX, hL, ?_, ?_⟩ ?_ (fun v hv => (List.not_mem_nil hv).elim) (zM0_inv L xs hL) (by show 0 + _ = _ + 0; omega) (by show 0 + _ = _ + 0; omega)
  · intro H' locs' lsA' pc' n' i' ls' st' q1 q2 q3
    have hd := zd_at (k := 255) (by decide) q1
    have hst := zft_stat q1
    cases i'
    case ireturn =>
      simp only [zstat, beq_iff_eq] at hst
      subst hst
      unfold zret at q2
      dsimp only at q2
      split at q2
      · next x =>
        split at q2
        · cases q2
          refine va_forget q3.2.2.2.2.1 (W.widen hl1 hl2 ?_)
          exact W.base (lw_ret (Drawn.sameBut.refl s.drawn lw_cs) hx hb hr hlocks hd)
        · cases q2
      · cases q2
    case lreturn =>
      unfold zret at q2
      dsimp only at q2
      split at q2
      · split at q2
        · cases q2
        · cases q2
      · cases q2
    case return_ =>
      unfold zret at q2
      dsimp only at q2
      split at q2
      · split at q2
        · cases q2
        · cases q2
      · cases q2
    all_goals cases q2
  · show lv_has ls 4 [(0, .ref (zad s.heap.size b zSC))]
    rw [hz]
    exact hl
  · show zM0 L xs zSC (-1) = L + 1
    unfold zM0
    rw [if_pos rfl, if_pos rfl]
  · intro j hj
    show zM0 L xs zSC j = _
    unfold zM0
    rw [if_pos rfl, if_neg (by omega), if_pos ⟨by omega, by omega⟩]
    rfl
  · intro v hv
    simp only [List.mem_cons, List.not_mem_nil, or_false] at hv
    rcases hv with rfl | rfl | rfl | rfl <;> trivial
