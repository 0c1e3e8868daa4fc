/-! ints and Int32; the machine's state beside the numbers' state -/
theorem zt {n : Int} (h : zrg n) : (Int32.ofInt n).toInt = n := by
  rw [Int32.toInt_ofInt]
  unfold zrg at h
  have e : (Int32.size : Int) = 4294967296 := rfl
  rw [Int.bmod_def]
  simp only [Int32.size] at *
  omega
theorem zA_w (x : Int) : Int32.ofInt (zw x) = Int32.ofInt x := by
  apply Int32.toInt_inj.mp
  rw [Int32.toInt_ofInt, Int32.toInt_ofInt, Int.bmod_def, Int.bmod_def]
  unfold zw
  simp only [Int32.size] at *
  omega
theorem zA_i (x : Int32) : Int32.ofInt x.toInt = x := Int32.ofInt_toInt x
theorem zA_add (x y : Int) : Int32.ofInt x + Int32.ofInt y = Int32.ofInt (zw (x + y)) := by rw [zA_w, Int32.ofInt_add]
theorem zA_sub (x y : Int) : Int32.ofInt x - Int32.ofInt y = Int32.ofInt (zw (x - y)) := by rw [zA_w, Int32.ofInt_sub]
theorem zA_mul (x y : Int) : Int32.ofInt x * Int32.ofInt y = Int32.ofInt (zw (x * y)) := by rw [zA_w, Int32.ofInt_mul]
theorem zA_neg (x : Int) : -Int32.ofInt x = Int32.ofInt (zw (-x)) := by rw [zA_w, Int32.ofInt_neg]
theorem zA_div {x y : Int} (hx : zrg x) (hy : zrg y) : Int32.ofInt x / Int32.ofInt y = Int32.ofInt (zw (x.tdiv y)) := by
  apply Int32.toInt_inj.mp
  rw [Int32.toInt_div, zt hx, zt hy, zA_w, Int32.toInt_ofInt]
theorem zA_rem {x y : Int} (hx : zrg x) (hy : zrg y) : Int32.ofInt x - Int32.ofInt x / Int32.ofInt y * Int32.ofInt y = Int32.ofInt (x.tmod y) := by
  rw [zA_div hx hy, zA_w, ← Int32.ofInt_mul, ← Int32.ofInt_sub, Int.tmod_def, Int.mul_comm y]
theorem zA_eq {x y : Int} (hx : zrg x) (hy : zrg y) : Int32.ofInt x = Int32.ofInt y ↔ x = y := by
  constructor
  · intro h
    have := congrArg Int32.toInt h
    rwa [zt hx, zt hy] at this
  · intro h; rw [h]
theorem zA_lt {x y : Int} (hx : zrg x) (hy : zrg y) : Int32.ofInt x < Int32.ofInt y ↔ x < y := by rw [Int32.lt_iff_toInt_lt, zt hx, zt hy]
theorem zA_le {x y : Int} (hx : zrg x) (hy : zrg y) : Int32.ofInt x ≤ Int32.ofInt y ↔ x ≤ y := by rw [Int32.le_iff_toInt_le, zt hx, zt hy]
theorem zA_0 : Int32.ofInt 0 = 0 := rfl
theorem zA_in {i : Int} {n : Nat} (h0 : 0 ≤ i) (h1 : i < n) (hn : n ≤ 2147483647) : vp_in (Int32.ofInt i) n ∧ (Int32.ofInt i).toNatClampNeg = i.toNat := by
  have h : zrg i := ⟨by omega, by omega⟩
  have e : (Int32.ofInt i).toNatClampNeg = i.toNat := by
    unfold Int32.toNatClampNeg
    rw [zt h]
  refine ⟨?_, e⟩
  unfold vp_in
  rw [e]
  have h2 : ¬ Int32.ofInt i < 0 := by
    rw [← zA_0, zA_lt h zrg_0]
    omega
  rintro (q | q)
  · exact h2 q
  · omega
-- locals
def zlv (b sc : Nat) : Nat → List ZV → List (Nat × Value)
  | _, [] => []
  | i, v :: l => match v with
    | .inr (.inr (.inr (.inr _))) => zlv b sc (i + 1) l
    | v => (i, zcv b sc v) :: zlv b sc (i + 1) l
def zun (v : ZV) : Bool := match v with
  | .inr (.inr (.inr (.inr _))) => true
  | _ => false
theorem zlv_cons (b sc i : Nat) (v : ZV) (l : List ZV) : zlv b sc i (v :: l) = if zun v = true then zlv b sc (i + 1) l else (i, zcv b sc v) :: zlv b sc (i + 1) l := by
  rcases v with x | x | x | x | x <;> rfl
theorem zlv_mem {b sc : Nat} : ∀ (l : List ZV) (i : Nat) (q : Nat × Value), q ∈ zlv b sc i l ↔ ∃ (j : Nat) (v : ZV), l[j]? = some v ∧ zun v = false ∧ q = (i + j, zcv b sc v)
  | [], i, q => by simp [zlv]
  | v :: l, i, q => by
    rw [zlv_cons]
    split
    · next hv =>
      rw [zlv_mem l (i + 1) q]
      constructor
      · rintro ⟨j, w, h1, h2, h3⟩
        exact ⟨j + 1, w, by simpa using h1, h2, by rw [h3]; congr 1; omega⟩
      · rintro ⟨j, w, h1, h2, h3⟩
        cases j with
        | zero => simp at h1; rw [← h1, hv] at h2; cases h2
        | succ j => exact ⟨j, w, by simpa using h1, h2, by rw [h3]; congr 1; omega⟩
    · next hv =>
      rw [List.mem_cons, zlv_mem l (i + 1) q]
      constructor
      · rintro (h | ⟨j, w, h1, h2, h3⟩)
        · exact ⟨0, v, by simp, by simpa using hv, by rw [h]; rfl⟩
        · exact ⟨j + 1, w, by simpa using h1, h2, by rw [h3]; congr 1; omega⟩
      · rintro ⟨j, w, h1, h2, h3⟩
        cases j with
        | zero => simp at h1; left; rw [h3, ← h1]; rfl
        | succ j => right; exact ⟨j, w, by simpa using h1, h2, by rw [h3]; congr 1; omega⟩
theorem zlv_get {b sc nL : Nat} {lsA : Array Slot} {ls : List ZV} (h : lv_has lsA nL (zlv b sc 0 ls)) {j : Nat} {v : ZV} (hj : ls[j]? = some v) (hv : zun v = false) : lsA[j]? = some (.val (zcv b sc v)) := by
  refine h.2.2 (j, zcv b sc v) ((zlv_mem ls 0 _).mpr ⟨j, v, hj, hv, by simp⟩)
theorem zct_cat (b sc : Nat) (v : ZV) : (zcv b sc v).category = zct v := by rcases v with x | x | x | x | x <;> rfl
theorem zfx_get {ls : List ZV} {j i : Nat} {v : ZV} (h : (zfx ls j)[i]? = some v) (hv : zun v = false) : ls[i]? = some v ∧ ¬ (i + 1 = j ∧ zct v = 2) := by
  unfold zfx at h
  split at h
  · exact ⟨h, by omega⟩
  · next k =>
    split at h
    · next hc =>
      by_cases hi : i = k
      · subst hi
        rw [List.getElem?_set] at h
        split at h
        · split at h
          · cases h; cases hv
          · cases h
        · omega
      · rw [List.getElem?_set_ne (by omega)] at h
        exact ⟨h, by omega⟩
    · next hc =>
      refine ⟨h, ?_⟩
      rintro ⟨h1, h2⟩
      have : i = k := by omega
      subst this
      apply hc
      rw [List.getD_eq_getElem?_getD, h]
      exact h2
theorem zlv_st1 {b sc nL : Nat} {lsA : Array Slot} {ls ls' : List ZV} {j : Nat} {v : ZV} (hv : zun v = false) (e : zs1 ls j v = some ls') {lv' : List (Nat × Value)} (hl : (j, zcv b sc v) :: (zlv b sc 0 ls).filter (fun q => !(q.1 == j) && !(q.1 + 1 == j && q.2.category == 2)) = lv') (h : lv_has lsA nL lv') : lv_has lsA nL (zlv b sc 0 ls') := by
  refine ⟨h.1, h.2.1, fun q hq => h.2.2 q ?_⟩
  rw [← hl]
  unfold zs1 at e
  split at e
  · cases e
    obtain ⟨i, w, h1, h2, rfl⟩ := (zlv_mem _ 0 q).mp hq
    by_cases hi : i = j
    · subst hi
      rw [List.getElem?_set] at h1
      split at h1
      · split at h1
        · cases h1; simp
        · cases h1
      · omega
    · rw [List.getElem?_set_ne (Ne.symm hi)] at h1
      obtain ⟨h3, h4⟩ := zfx_get h1 h2
      refine List.mem_cons_of_mem _ (List.mem_filter.mpr ⟨(zlv_mem ls 0 _).mpr ⟨i, w, h3, h2, rfl⟩, ?_⟩)
      simp only [Nat.zero_add, zct_cat, Bool.and_eq_true, Bool.not_eq_true', beq_eq_false_iff_ne, ne_eq, Bool.and_eq_false_iff]
      refine ⟨hi, ?_⟩
      by_cases h5 : i + 1 = j
      · exact Or.inr (fun h6 => h4 ⟨h5, h6⟩)
      · exact Or.inl h5
  · cases e
theorem zs1_lt {ls ls' : List ZV} {j : Nat} {v : ZV} (e : zs1 ls j v = some ls') : j < ls.length ∧ ls'.length = ls.length := by
  unfold zs1 at e
  split at e
  · next hh =>
    cases e
    refine ⟨hh, ?_⟩
    rw [List.length_set]
    unfold zfx
    split
    · rfl
    · split
      · rw [List.length_set]
      · rfl
  · cases e
theorem zs2_lt {ls ls' : List ZV} {j : Nat} {v : ZV} (e : zs2 ls j v = some ls') : j + 1 < ls.length ∧ ls'.length = ls.length := by
  unfold zs2 at e
  split at e
  · next hh =>
    cases e
    refine ⟨hh, ?_⟩
    rw [List.length_set, List.length_set]
    unfold zfx
    split
    · rfl
    · split
      · rw [List.length_set]
      · rfl
  · cases e
theorem zlv_st2 {b sc nL : Nat} {lsA : Array Slot} {ls ls' : List ZV} {j : Nat} {v : ZV} (hv : zun v = false) (e : zs2 ls j v = some ls') {lv' : List (Nat × Value)} (hl : (j, zcv b sc v) :: (zlv b sc 0 ls).filter (fun q => !(q.1 == j) && (!(q.1 == j + 1) && !(q.1 + 1 == j && q.2.category == 2))) = lv') (h : lv_has lsA nL lv') : lv_has lsA nL (zlv b sc 0 ls') := by
  refine ⟨h.1, h.2.1, fun q hq => h.2.2 q ?_⟩
  rw [← hl]
  unfold zs2 at e
  split at e
  · cases e
    obtain ⟨i, w, h1, h2, rfl⟩ := (zlv_mem _ 0 q).mp hq
    by_cases hk : i = j + 1
    · subst hk
      rw [List.getElem?_set] at h1
      split at h1
      · split at h1
        · cases h1; cases h2
        · cases h1
      · omega
    · rw [List.getElem?_set_ne (Ne.symm hk)] at h1
      by_cases hi : i = j
      · subst hi
        rw [List.getElem?_set] at h1
        split at h1
        · split at h1
          · cases h1; simp
          · cases h1
        · omega
      · rw [List.getElem?_set_ne (Ne.symm hi)] at h1
        obtain ⟨h3, h4⟩ := zfx_get h1 h2
        refine List.mem_cons_of_mem _ (List.mem_filter.mpr ⟨(zlv_mem ls 0 _).mpr ⟨i, w, h3, h2, rfl⟩, ?_⟩)
        simp only [Nat.zero_add, zct_cat, Bool.and_eq_true, Bool.not_eq_true', beq_eq_false_iff_ne, ne_eq, Bool.and_eq_false_iff]
        refine ⟨hi, hk, ?_⟩
        by_cases h5 : i + 1 = j
        · exact Or.inr (fun h6 => h4 ⟨h5, h6⟩)
        · exact Or.inl h5
  · cases e
-- the frame's own facts, and the state's
def zFr (p : Program) (R : Room) (s : State) (m : MethodId) (args : Array Value) (meth : Method) (c : Code) (D : va_G) (cA : Nat → ClassId) (k : Nat) : Prop :=
  p.tables.exec = Jvm.exec ∧ c.code = (zm k).2.2.1 ∧ c.maxLocals = zmax k ∧ s.vm.findClass (zCnm (zown k)) = some m.cls ∧ (∀ w ∈ zWs, w.before args s = true) ∧ zK D cA s ∧ (zini k = true → meth.name = "<init>") ∧ 1 ≤ R.frames ∧ 40 ≤ R.locals
/-- the script's cell, beside the numbers' script -/
def zX (sc : Nat) (h : ZH) (U : State) (H : Heap) : Prop := ∃ (L : Nat) (xs : Nat → Int32), va_X sc L xs U H ∧ L ≤ 2560 ∧ h.2 zSC (-1) = L + 1 ∧ ∀ j : Nat, j < L → h.2 zSC j = (xs j).toInt
def zHR (b sc : Nat) (D : va_G) (cA : Nat → ClassId) (h : ZH) (H : Heap) : Prop := H.size = b + h.1.length ∧ va_P D zCl (zws b sc cA h) H
def zRel (b sc : Nat) (D : va_G) (cA : Nat → ClassId) (s : State) (k : Nat) (ls : List ZV) (h : ZH) (H : Heap) (locs : List Loc) (lsA : Array Slot) : Prop :=
  lv_has lsA (zmax k) (zlv b sc 0 ls) ∧ ls.length = zmax k ∧ zHR b sc D cA h H ∧ (∀ q : Nat, q < b → H[q]? = s.heap[q]?) ∧ (∀ q ∈ locs, b ≤ q.base) ∧ sc < b ∧ zX sc h s H
