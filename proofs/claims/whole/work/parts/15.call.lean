/-! calls, and what a method's run comes to -/
theorem zAOA.moved {u U : State} (hvm : u.vm.Alike U.vm) (h : zAOA u) : zAOA U := by
  obtain ⟨comp, c, k, h1, h2, h3, h4, h5⟩ := arrayOverA_spec h
  obtain ⟨k', hk', he⟩ := hvm.2.2 _ _ h3
  have hi := (hvm.findIdx?_eq _ (fun _ => rfl)).trans h2
  have hkind : k'.kind = .array comp (.array .int) := by rw [he]; exact h4
  have f1 : U.vm.findClass (FieldType.array .int).toString = some comp := by rw [hvm.findClass]; exact h1
  have f2 : U.vm.findClass ("[" ++ (FieldType.array .int).toString) = some c := by rw [hvm.findClass]; exact h5
  unfold zAOA Cond.before Cond.holds
  simp only [Cond.value]
  rw [f1, Option.bind_some]
  refine (congrArg (fun o : Option Nat => (o.bind (fun c => (U.vm.classes[c]?).map fun (k : Class) => match k.kind with | .array _ ty => decide (ty = FieldType.array .int) && decide (U.vm.findClass ("[" ++ (FieldType.array .int).toString) = some c) | _ => false) == some true)) hi).trans ?_
  simp [hk', hkind, f2]
theorem zK.calling {D : va_G} {cA : Nat → ClassId} {U : State} (h : zK D cA U) (g : JFrame) (mk : MethodId) (a : Array Value) : zK D cA (U.calling g mk a) := by
  refine ⟨va_K.moved (u := U) (U := U.calling g mk a) (Vm.Alike.refl U.vm) h.1, fun w hw => ?_, va_AO.moved (u := U) (U := U.calling g mk a) (Vm.Alike.refl U.vm) h.2.2.1, zAOA.moved (u := U) (U := U.calling g mk a) (Vm.Alike.refl U.vm) h.2.2.2⟩
  have h1 := h.2.1 w hw
  have h2 := (List.mem_filter.mp hw).2
  revert h1
  cases w <;> first | exact fun h1 => va_Nw.same (u := U) (U := U.calling g mk a) rfl rfl h1 | cases h2
theorem zK.warm {D : va_G} {cA : Nat → ClassId} {s U : State} (h : zK D cA s) (hW : s.WarmedH U.vm) : zK D cA U := by
  refine ⟨va_K.moved hW.alike h.1, fun w hw => ?_, va_AO.moved hW.alike h.2.2.1, zAOA.moved hW.alike h.2.2.2⟩
  have h1 := h.2.1 w hw
  have h2 := (List.mem_filter.mp hw).2
  revert h1
  cases w <;> first | exact fun h1 => va_Nw.warmM hW h1 | cases h2
def zrm (d mc ms : Nat) : Room := { frames := d, cells := mc, slots := ms, locals := 60 * d }
def zPc (b sc : Nat) (D : va_G) (cA : Nat → ClassId) (as : List ZV) (h : ZH) : Array Value → State → Prop := fun v U => v = (as.map (zcv b sc)).toArray ∧ zK D cA U ∧ zHR b sc D cA h U.heap ∧ sc < b ∧ zX sc h U U.heap
def zQc (b sc : Nat) (D : va_G) (cA : Nat → ClassId) (v : Option ZV) (h1 : ZH) : Array Value → State → Outcome → State → Prop := fun _ st o t => o = .returned (v.map (zcv b sc)) ∧ zHR b sc D cA h1 t.heap ∧ ∀ q : Nat, q < b → t.heap[q]? = st.heap[q]?
def zSnd (l : Launch) (d : Nat) (cal : Nat → List ZV → ZH → ZO) : Prop := ∀ (b sc : Nat) (D : va_G) (cA : Nat → ClassId) (k : Nat) (as : List ZV) (h : ZH) (v : Option ZV) (h1 : ZH), k < 255 → Jvm.plainName (zm k).2.1.cls = true → zoks as → zinv h → cal k as h = some (v, h1) → Met l (zm k).2.1 (zwk k) (zrm d (h1.1.length - h.1.length) (ztot h1.1 - ztot h.1)) (zPc b sc D cA as h) (zQc b sc D cA v h1) (h1.1.length - h.1.length) (ztot h1.1 - ztot h.1) (fun q => b ≤ q)
theorem zX_calling {sc : Nat} {h : ZH} {U : State} {H : Heap} (hX : zX sc h U H) (g : JFrame) (mk : MethodId) (a : Array Value) : zX sc h (U.calling g mk a) H := by
  obtain ⟨L, xs, h1, h2⟩ := hX
  exact ⟨L, xs, h1.moved (u := U) (U := U.calling g mk a) (Vm.Alike.refl U.vm), h2⟩
theorem zPc_blind {b sc : Nat} {D : va_G} {cA : Nat → ClassId} {as : List ZV} {h : ZH} : FrameBlind (zPc b sc D cA as h) := fun a U g mk q => ⟨q.1, q.2.1.calling g mk a, q.2.2.1, q.2.2.2.1, zX_calling q.2.2.2.2 g mk a⟩
theorem zwk_good {k : Nat} (hk : k < 255) : GoodIn zWs (zwk k) := fun w hw => by
  rcases List.mem_cons.mp hw with rfl | hw
  · exact zWs_good _ (zcode_in hk)
  · exact zWs_good _ hw
theorem zmax_le : ∀ k, k < 256 → zmax k ≤ 12 := by decide +kernel
section
variable {p : Program} {l : Launch} {e : Env} {R : Room} {s : State} {m : MethodId} {args : Array Value} {below : List Frame} {meth : Method} {c : Code} {Q : State → Prop} {b sc : Nat} {D : va_G} {cA : Nat → ClassId} {k cells slots : Nat} {H : Heap} {locs : List Loc} {lsA : Array Slot} {pc : Nat} {ls st : List ZV} {h : ZH}
/-- behind a call -/
theorem zcall_go {g : JFrame} {rest : List ZV} {as : Array Value} {v : Option ZV} {h1 : ZH} {mc ms : Nat} (hrel : zRel b sc D cA s k ls h H locs lsA) (hle : ∀ j, h1.2 zSC j = h.2 zSC j)
    (hr : CallRun p l e R s m args below meth c H locs cells slots mc ms g (rest.map (zcv b sc)) (zQc b sc D cA v h1 as) (fun q => b ≤ q)) (hg : { g with pc := g.pc + 3, stack := (v.map (zcv b sc)).toList ++ rest.map (zcv b sc) } = F0 m (pc + 3) lsA ((v.toList ++ rest).map (zcv b sc)))
    (kk : ∀ (H' : Heap) (locs' : List Loc), zRel b sc D cA s k ls h1 H' locs' lsA → zGo p l e R s m args below meth c Q b sc (cells + mc) (slots + ms) H' locs' lsA (pc + 3) (v.toList ++ rest)) : W p l e R s m args below meth c H locs cells slots Q g := by
  obtain ⟨g1, g2, ⟨g3, g4⟩, g5, g6, g7, g8⟩ := hrel
  intro T hT X
  obtain ⟨v', st₀, t, T', L, e0, X', hL, e1, ⟨ev, hh, hq⟩, st⟩ := hr T hT X
  cases ev
  have hq : ∀ q : Nat, q < b → t.heap[q]? = H[q]? := fun q hq2 => by rw [hq q hq2, e0]
  obtain ⟨t2, a1, b1⟩ := kk t.heap (locs ++ L) ⟨g1, g2, hh, fun q hq2 => by rw [hq q hq2]; exact g5 q hq2, fun q hq2 => (List.mem_append.mp hq2).elim (g6 q) (hL q), g7, zX_kept g8 (hq sc g7) hle⟩ T' e1 X'
  refine ⟨t2, st t2 ?_, b1⟩
  rw [hg]
  exact a1
end
theorem zcv_opt (b sc : Nat) (v : Option ZV) (l : List ZV) : (v.map (zcv b sc)).toList ++ l.map (zcv b sc) = (v.toList ++ l).map (zcv b sc) := by cases v <;> rfl
theorem zsplit {b sc n : Nat} {st : List ZV} : st.map (zcv b sc) = (((st.take n).reverse).map (zcv b sc)).reverse ++ (st.drop n).map (zcv b sc) := by
  rw [← List.map_reverse, List.reverse_reverse, ← List.map_append, List.take_append_drop]
