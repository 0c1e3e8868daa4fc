/-! the numbers' heap as cells of the machine; the tables' words by the code's own tables -/
def zad (b sc a : Nat) : Nat := if a = zSC then sc else b + a
def zcv (b sc : Nat) (v : ZV) : Value := match v with
  | .inl n => .int (Int32.ofInt n)
  | .inr (.inl a) => .ref (zad b sc a)
  | .inr (.inr (.inl x)) => .long x
  | .inr (.inr (.inr (.inl x))) => .double x
  | _ => .null
def zro (b sc q : Nat) : Option Nat := match q with
  | 0 => none
  | a + 1 => some (zad b sc a)
def zfv (b sc ci : Nat) (rs : List Nat) (f : Int → Int) (k : Nat) : Value := if zfk ci k = 2 then va_rf (zro b sc (rs.getD k 0)) else .int (Int32.ofInt (f k))
def zce (b sc : Nat) (cA : Nat → ClassId) (c : Nat × Nat × List Nat) (f : Int → Int) : va_E :=
  if c.1 < 20 then .inr (c.1, (List.range (zFk.getD c.1 []).length).map (zfv b sc c.1 c.2.2 f))
  else if c.1 < 23 then .inl (cA c.1, (c.2.1, .inl (fun j => Int32.ofInt (f j))))
  else .inl (cA c.1, (c.2.1, .inr (.inr (.inr (.inr (fun j => zro b sc (c.2.2.getD j 0)))))))
def zws (b sc : Nat) (cA : Nat → ClassId) (h : ZH) : va_W := (List.range h.1.length).map (fun i => (b + i, zce b sc cA (h.1.getD i (99, 0, [])) (h.2 i)))
theorem zws_at {b sc : Nat} {cA : Nat → ClassId} {h : ZH} {a : Nat} (ha : a < h.1.length) : (zws b sc cA h)[a]? = some (b + a, zce b sc cA (h.1.getD a (99, 0, [])) (h.2 a)) := by
  unfold zws
  rw [List.getElem?_map, List.getElem?_range ha]
  rfl
def zDg : String := "DungeonBuilder$Dungeon"
def zTy (cA : Nat → ClassId) : List (ClassId × FieldType) := [(cA 20, .int), (cA 21, .char), (cA 22, .boolean), (cA 23, .object zDg), (cA 24, .array .int)]
def zWs : List Jvm.Cond := lw_tbl.filter goodWord
def zNw : List Jvm.Cond := lw_tbl.filter (fun w => match w with
  | .methodLinkNest _ _ _ _ => true
  | _ => false)
def zAOA (U : State) : Prop := (Cond.arrayOver (.array .int)).before #[] U = true
def zK (D : va_G) (cA : Nat → ClassId) (U : State) : Prop := va_K D zCl (zTy cA) U ∧ (∀ w, w ∈ zNw → va_Nw w U) ∧ va_AO zDg U ∧ zAOA U
def zCnm (o : Nat) : String := zCN.getD o ""
def zwk (k : Nat) : List Jvm.Cond := Cond.code (zm k).2.1 (zm k).2.2.1 (zmax k) (zrty k) :: zWs
theorem zWs_of {w : Jvm.Cond} (h : (decide (w ∈ lw_tbl) && goodWord w) = true) : w ∈ zWs := by
  simp only [Bool.and_eq_true, decide_eq_true_eq] at h
  exact List.mem_filter.mpr h
theorem zWs_good : GoodIn zWs zWs := fun w h => ⟨h, good_of_word (List.mem_filter.mp h).2⟩
-- fields
def zT (ci : Nat) : u_T := (zCl.getD ci ("", TX0, 0)).2.1
def zC (ci : Nat) : String := (zCl.getD ci ("", TX0, 0)).1
def zN (ci : Nat) : Nat := (zCl.getD ci ("", TX0, 0)).2.2
def ztyp (ci k : Nat) : FieldType := match ci with
  | 0 => tyX0 k
  | 1 => tyX1 k
  | 2 => tyX2 k
  | 3 => tyX3 k
  | 4 => tyX4 k
  | 5 => tyX5 k
  | 6 => tyX1 k
  | 7 => tyX7 k
  | 8 => tyX8 k
  | 9 => tyX9 k
  | _ => tyX10 k
theorem zCl_at {ci : Nat} (h : ci < 11) : zCl[ci]? = some (zC ci, zT ci, zN ci) := by
  unfold zC zT zN
  rw [List.getD_eq_getElem?_getD, List.getElem?_eq_getElem (show ci < zCl.length from h), Option.getD_some]
theorem zN_len {ci : Nat} (h : ci < 11) : (zFk.getD ci []).length = zN ci := by
  have : ∀ ci, ci < 11 → (zFk.getD ci []).length = zN ci := by decide +kernel
  exact this ci h
theorem ztyp_ok {ci : Nat} (h : ci < 11) : ∀ k, k < zN ci → parseFieldDescriptor (zT ci k).2.2.1 = some (ztyp ci k) := by
  have : ∀ ci, ci < 11 → ∀ k, k < zN ci → parseFieldDescriptor (zT ci k).2.2.1 = some (ztyp ci k) := by decide +kernel
  exact this ci h
theorem ztyp_k {ci : Nat} (h : ci < 11) : ∀ k, k < zN ci → zfk ci k < 3 ∧ (zfk ci k = 0 → ztyp ci k = .int) ∧ (zfk ci k = 1 → ztyp ci k = .boolean) ∧ (zfk ci k = 2 → (ztyp ci k).isReference = true) := by
  have : ∀ ci, ci < 11 → ∀ k, k < zN ci → zfk ci k < 3 ∧ (zfk ci k = 0 → ztyp ci k = .int) ∧ (zfk ci k = 1 → ztyp ci k = .boolean) ∧ (zfk ci k = 2 → (ztyp ci k).isReference = true) := by decide +kernel
  exact this ci h
theorem znm_ok {ci : Nat} (h : ci < 11) : ∀ a, a < zN ci → ∀ b, b < zN ci → a ≠ b → (zT ci a).2.1 ≠ (zT ci b).2.1 := by
  have : ∀ ci, ci < 11 → ∀ a, a < zN ci → ∀ b, b < zN ci → a ≠ b → (zT ci a).2.1 ≠ (zT ci b).2.1 := by decide +kernel
  exact this ci h
theorem zu_ok : ∀ ci, ci < 11 → (u_ws (zC ci) (zT ci) (zN ci)).all (fun w => decide (w ∈ lw_tbl) && goodWord w) = true := by decide +kernel
theorem zu_in {ci : Nat} (h : ci < 11) : ∀ w ∈ u_ws (zC ci) (zT ci) (zN ci), w ∈ zWs := fun w hw => zWs_of (List.all_eq_true.mp (zu_ok ci h) w hw)
def zFw (q : Nat × Nat × Nat) : Jvm.Cond := .fieldLink (zCnm (q.1 / 4096)) (q.1 % 4096) (zT q.2.1 q.2.2).1 (zT q.2.1 q.2.2).2.1 (zT q.2.1 q.2.2).2.2.1
theorem zFl_w : zFl.all (fun q => decide (zFw q ∈ lw_tbl) && goodWord (zFw q) && decide (q.2.2 < zN q.2.1)) = true := by decide +kernel
theorem zky_div {o x : Nat} (h : x < 4096) : zky o x / 4096 = o := by unfold zky; omega
theorem zky_mod {o x : Nat} (h : x < 4096) : zky o x % 4096 = x := by unfold zky; omega
