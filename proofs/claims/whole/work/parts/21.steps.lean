/-! runs behind the constructors, instruction by instruction: Q is what a frame comes to, E what a method comes to -/
noncomputable def Q (d k pc : Nat) (ls st : List ZV) (M : ZM) : ZO := zrun (zevl d) k pc ls st (SH, M)
noncomputable def E (d k : Nat) (as : List ZV) (M : ZM) : ZO := zevl d k as (SH, M)
def Rt (v : Option ZV) (M : ZM) : ZO := some (v, (SH, M))
def Cb (x : ZO) (f : Option ZV → ZH → ZO) : ZO := x.bind fun r => f r.1 r.2
theorem Cb_Rt (v : Option ZV) (M : ZM) (f : Option ZV → ZH → ZO) : Cb (Rt v M) f = f v (SH, M) := rfl
theorem ite_cg {c : Prop} {i : Decidable c} {α : Type} {a a' b b' : α} (h1 : c → a = a') (h2 : ¬ c → b = b') : (if c then a else b) = (if c then a' else b') := by
  by_cases h : c
  · rw [if_pos h, if_pos h, h1 h]
  · rw [if_neg h, if_neg h, h2 h]
theorem gd_cg {c : Prop} {i : Decidable c} {α : Type} {a a' : Option α} (h1 : c → a = a') : (if c then a else none) = (if c then a' else none) := ite_cg h1 (fun _ => rfl)
section
variable {d k pc n : Nat} {ls st : List ZV} {M : ZM}
theorem s_x {i : Instr} {pc' : Nat} {ls' st' : List ZV} {M' : ZM} (hf : zft k pc = some (n, i)) (hr : zret k i st = none) (hc : zcal (zown k) i = none) (he : zex (zown k) i pc n ls st (SH, M) = some (pc', ls', st', (SH, M'))) : Q d k pc ls st M = Q d k pc' ls' st' M' := by
  unfold Q
  rw [zrun_eq]
  unfold zgo
  rw [hf]
  dsimp only
  rw [hr]
  dsimp only
  rw [hc]
  dsimp only
  rw [he]
  rfl
theorem s_x0 {i : Instr} (hf : zft k pc = some (n, i)) (hr : zret k i st = none) (hc : zcal (zown k) i = none) (he : zex (zown k) i pc n ls st (SH, M) = none) : Q d k pc ls st M = none := by
  unfold Q
  rw [zrun_eq]
  unfold zgo
  rw [hf]
  dsimp only
  rw [hr]
  dsimp only
  rw [hc]
  dsimp only
  rw [he]
  rfl
theorem s_iconst {c : Int} (hf : zft k pc = some (n, .iconst c)) : Q d k pc ls st M = Q d k (pc + n) ls (zI c :: st) M := s_x hf rfl rfl rfl
theorem s_bipush {c : Int} (hf : zft k pc = some (n, .bipush c)) : Q d k pc ls st M = Q d k (pc + n) ls (zI c :: st) M := s_x hf rfl rfl rfl
theorem s_sipush {c : Int} (hf : zft k pc = some (n, .sipush c)) : Q d k pc ls st M = Q d k (pc + n) ls (zI c :: st) M := s_x hf rfl rfl rfl
theorem s_ldc {x : Nat} {c : Int} (hf : zft k pc = some (n, .ldc x)) (hl : zKi.lookup (zky (zown k) x) = some c) : Q d k pc ls st M = Q d k (pc + n) ls (zI c :: st) M := s_x hf rfl rfl (by show Option.map _ _ = _; rw [hl]; rfl)
theorem s_ldcw {x : Nat} {c : Int} (hf : zft k pc = some (n, .ldc_w x)) (hl : zKi.lookup (zky (zown k) x) = some c) : Q d k pc ls st M = Q d k (pc + n) ls (zI c :: st) M := s_x hf rfl rfl (by show Option.map _ _ = _; rw [hl]; rfl)
theorem s_iload {j : Nat} {x : Int} (hf : zft k pc = some (n, .iload j)) (hl : ls[j]? = some (zI x)) : Q d k pc ls st M = Q d k (pc + n) ls (zI x :: st) M := s_x hf rfl rfl (by show zpush _ _ _ _ (zgi ls j) = _; unfold zgi; rw [hl]; rfl)
theorem s_iloadn {j : Fin 4} {x : Int} (hf : zft k pc = some (n, .iload_n j)) (hl : ls[(j : Nat)]? = some (zI x)) : Q d k pc ls st M = Q d k (pc + n) ls (zI x :: st) M := s_x hf rfl rfl (by show zpush _ _ _ _ (zgi ls j) = _; unfold zgi; rw [hl]; rfl)
theorem s_aload {j : Nat} {x : Nat} (hf : zft k pc = some (n, .aload j)) (hl : ls[j]? = some (zR x)) : Q d k pc ls st M = Q d k (pc + n) ls (zR x :: st) M := s_x hf rfl rfl (by show zpush _ _ _ _ (zga ls j) = _; unfold zga; rw [hl]; rfl)
theorem s_aloadn {j : Fin 4} {x : Nat} (hf : zft k pc = some (n, .aload_n j)) (hl : ls[(j : Nat)]? = some (zR x)) : Q d k pc ls st M = Q d k (pc + n) ls (zR x :: st) M := s_x hf rfl rfl (by show zpush _ _ _ _ (zga ls j) = _; unfold zga; rw [hl]; rfl)
theorem s_istore {j : Nat} {x : Int} {ls' : List ZV} (hf : zft k pc = some (n, .istore j)) (hl : zs1 ls j (zI x) = some ls') : Q d k pc ls (zI x :: st) M = Q d k (pc + n) ls' st M := s_x hf rfl rfl (by show (zs1 ls j (.inl x)).map _ = _; rw [hl]; rfl)
theorem s_istoren {j : Fin 4} {x : Int} {ls' : List ZV} (hf : zft k pc = some (n, .istore_n j)) (hl : zs1 ls j (zI x) = some ls') : Q d k pc ls (zI x :: st) M = Q d k (pc + n) ls' st M := s_x hf rfl rfl (by show (zs1 ls j (.inl x)).map _ = _; rw [hl]; rfl)
theorem s_iinc {j : Nat} {c x : Int} {ls' : List ZV} (hf : zft k pc = some (n, .iinc j c)) (hx : ls[j]? = some (zI x)) (hl : zs1 ls j (zI (zw (x + c))) = some ls') : Q d k pc ls st M = Q d k (pc + n) ls' st M := s_x hf rfl rfl (by
  unfold zex
  dsimp only
  rw [hx]
  dsimp only
  rw [hl]
  rfl)
theorem s_dup {v : ZV} (hf : zft k pc = some (n, .dup)) (hv : zc1 v = true) : Q d k pc ls (v :: st) M = Q d k (pc + n) ls (v :: v :: st) M := s_x hf rfl rfl (by unfold zex; dsimp only; rw [if_pos hv])
theorem s_dup2 {v w : ZV} (hf : zft k pc = some (n, .dup2)) (hv : zc1 v = true ∧ zc1 w = true) : Q d k pc ls (v :: w :: st) M = Q d k (pc + n) ls (v :: w :: v :: w :: st) M := s_x hf rfl rfl (by unfold zex; dsimp only; rw [if_pos hv])
theorem s_pop {v : ZV} (hf : zft k pc = some (n, .pop)) (hv : zc1 v = true) : Q d k pc ls (v :: st) M = Q d k (pc + n) ls st M := s_x hf rfl rfl (by unfold zex; dsimp only; rw [if_pos hv])
theorem s_iadd {x y : Int} (hf : zft k pc = some (n, .iadd)) : Q d k pc ls (zI y :: zI x :: st) M = Q d k (pc + n) ls (zI (zw (x + y)) :: st) M := s_x hf rfl rfl rfl
theorem s_isub {x y : Int} (hf : zft k pc = some (n, .isub)) : Q d k pc ls (zI y :: zI x :: st) M = Q d k (pc + n) ls (zI (zw (x - y)) :: st) M := s_x hf rfl rfl rfl
theorem s_imul {x y : Int} (hf : zft k pc = some (n, .imul)) : Q d k pc ls (zI y :: zI x :: st) M = Q d k (pc + n) ls (zI (zw (x * y)) :: st) M := s_x hf rfl rfl rfl
theorem s_idiv {x y : Int} (hf : zft k pc = some (n, .idiv)) : Q d k pc ls (zI y :: zI x :: st) M = if y ≠ 0 then Q d k (pc + n) ls (zI (zw (x.tdiv y)) :: st) M else none := by
  by_cases h : y = 0
  · rw [if_neg (by simpa using h)]
    refine s_x0 hf rfl rfl ?_
    show Option.map _ (if y = 0 then none else _) = none
    rw [if_pos h]
    rfl
  · rw [if_pos h]
    refine s_x hf rfl rfl ?_
    show Option.map _ (if y = 0 then none else _) = _
    rw [if_neg h]
    rfl
theorem s_irem {x y : Int} (hf : zft k pc = some (n, .irem)) : Q d k pc ls (zI y :: zI x :: st) M = if y ≠ 0 then Q d k (pc + n) ls (zI (x.tmod y) :: st) M else none := by
  by_cases h : y = 0
  · rw [if_neg (by simpa using h)]
    refine s_x0 hf rfl rfl ?_
    show Option.map _ (if y = 0 then none else _) = none
    rw [if_pos h]
    rfl
  · rw [if_pos h]
    refine s_x hf rfl rfl ?_
    show Option.map _ (if y = 0 then none else _) = _
    rw [if_neg h]
    rfl
theorem s_iand {x y : Int} (hf : zft k pc = some (n, .iand)) : Q d k pc ls (zI y :: zI x :: st) M = Q d k (pc + n) ls (zI (zand x y) :: st) M := s_x hf rfl rfl rfl
theorem s_ior {x y : Int} (hf : zft k pc = some (n, .ior)) : Q d k pc ls (zI y :: zI x :: st) M = Q d k (pc + n) ls (zI (zor x y) :: st) M := s_x hf rfl rfl rfl
theorem s_ixor {x y : Int} (hf : zft k pc = some (n, .ixor)) : Q d k pc ls (zI y :: zI x :: st) M = Q d k (pc + n) ls (zI (zxor x y) :: st) M := s_x hf rfl rfl rfl
theorem s_ishl {x y : Int} (hf : zft k pc = some (n, .ishl)) : Q d k pc ls (zI y :: zI x :: st) M = Q d k (pc + n) ls (zI (zshl x y) :: st) M := s_x hf rfl rfl rfl
theorem s_ishr {x y : Int} (hf : zft k pc = some (n, .ishr)) : Q d k pc ls (zI y :: zI x :: st) M = Q d k (pc + n) ls (zI (zshr x y) :: st) M := s_x hf rfl rfl rfl
theorem s_iushr {x y : Int} (hf : zft k pc = some (n, .iushr)) : Q d k pc ls (zI y :: zI x :: st) M = Q d k (pc + n) ls (zI (zushr x y) :: st) M := s_x hf rfl rfl rfl
theorem s_ineg {x : Int} (hf : zft k pc = some (n, .ineg)) : Q d k pc ls (zI x :: st) M = Q d k (pc + n) ls (zI (zw (-x)) :: st) M := s_x hf rfl rfl rfl
theorem s_i2c {x : Int} (hf : zft k pc = some (n, .i2c)) : Q d k pc ls (zI x :: st) M = if 0 ≤ x ∧ x < 65536 then Q d k (pc + n) ls (zI x :: st) M else none := by
  by_cases h : 0 ≤ x ∧ x < 65536
  · rw [if_pos h]
    exact s_x hf rfl rfl (by show (if _ then _ else _) = _; rw [if_pos h])
  · rw [if_neg h]
    exact s_x0 hf rfl rfl (by show (if _ then _ else _) = _; rw [if_neg h])
theorem s_getI {x ci kf a : Nat} (hf : zft k pc = some (n, .getfield x)) (hl : zFl.lookup (zky (zown k) x) = some (ci, kf)) (h0 : zfk ci kf ≠ 2) (hk : zkn SH a = ci) : Q d k pc ls (zR a :: st) M = Q d k (pc + n) ls (zI (M a kf) :: st) M := s_x hf rfl rfl (by
  unfold zex
  dsimp only
  rw [hl, Option.bind_some]
  unfold zget
  dsimp only
  rw [if_pos hk, if_neg h0])
theorem s_getR {x ci kf a q : Nat} (hf : zft k pc = some (n, .getfield x)) (hl : zFl.lookup (zky (zown k) x) = some (ci, kf)) (h0 : zfk ci kf = 2) (hk : zkn SH a = ci) (hq : zrf SH a kf = q + 1) : Q d k pc ls (zR a :: st) M = Q d k (pc + n) ls (zR q :: st) M := s_x hf rfl rfl (by
  unfold zex
  dsimp only
  rw [hl, Option.bind_some]
  unfold zget
  dsimp only
  rw [if_pos hk, if_pos h0, hq])
theorem s_putI {x ci kf a : Nat} {v : Int} (hf : zft k pc = some (n, .putfield x)) (hl : zFl.lookup (zky (zown k) x) = some (ci, kf)) (h0 : zfk ci kf = 0) (hk : zkn SH a = ci) : Q d k pc ls (zI v :: zR a :: st) M = Q d k (pc + n) ls st (zwr M a kf v) := s_x hf rfl rfl (by
  unfold zex
  dsimp only
  rw [hl, Option.bind_some]
  unfold zput
  dsimp only
  rw [if_pos ⟨hk, Or.inl h0⟩])
theorem s_putZ {x ci kf a : Nat} {v : Int} (hf : zft k pc = some (n, .putfield x)) (hl : zFl.lookup (zky (zown k) x) = some (ci, kf)) (h0 : zfk ci kf = 1) (hk : zkn SH a = ci) (hv : v = 0 ∨ v = 1) : Q d k pc ls (zI v :: zR a :: st) M = Q d k (pc + n) ls st (zwr M a kf v) := s_x hf rfl rfl (by
  unfold zex
  dsimp only
  rw [hl, Option.bind_some]
  unfold zput
  dsimp only
  rw [if_pos ⟨hk, Or.inr ⟨h0, hv⟩⟩])
theorem SH_sc {a kd : Nat} (hk : zkn SH a = kd) (h : kd < 99) : a ≠ zSC := by
  have h1 := zkn_lt (by rw [hk]; exact h)
  rw [SH_len] at h1
  intro q
  unfold zSC at q
  omega
theorem s_iald {i : Int} {a : Nat} {w : Nat} (hf : zft k pc = some (n, .iaload)) (hk : zkn SH a = 20) (hw : zln SH a = w) : Q d k pc ls (zI i :: zR a :: st) M = if 0 ≤ i ∧ i < (w : Int) then Q d k (pc + n) ls (zI (M a i) :: st) M else none := by
  subst hw
  by_cases h : 0 ≤ i ∧ i < (zln SH a : Int)
  · rw [if_pos h]
    refine s_x hf rfl rfl ?_
    unfold zex
    dsimp only
    unfold zald
    dsimp only
    rw [if_pos ⟨hk, h⟩]
  · rw [if_neg h]
    refine s_x0 hf rfl rfl ?_
    unfold zex
    dsimp only
    unfold zald
    dsimp only
    rw [if_neg (fun q => h q.2)]
    unfold zsld
    dsimp only
    rw [if_neg (SH_sc hk (by decide))]
theorem s_cald {i : Int} {a : Nat} {w : Nat} (hf : zft k pc = some (n, .caload)) (hk : zkn SH a = 21) (hw : zln SH a = w) : Q d k pc ls (zI i :: zR a :: st) M = if 0 ≤ i ∧ i < (w : Int) then Q d k (pc + n) ls (zI (M a i) :: st) M else none := by
  subst hw
  by_cases h : 0 ≤ i ∧ i < (zln SH a : Int)
  · rw [if_pos h]
    exact s_x hf rfl rfl (by unfold zex; dsimp only; unfold zald; dsimp only; rw [if_pos ⟨hk, h⟩])
  · rw [if_neg h]
    exact s_x0 hf rfl rfl (by unfold zex; dsimp only; unfold zald; dsimp only; rw [if_neg (fun q => h q.2)])
theorem s_bald {i : Int} {a : Nat} {w : Nat} (hf : zft k pc = some (n, .baload)) (hk : zkn SH a = 22) (hw : zln SH a = w) : Q d k pc ls (zI i :: zR a :: st) M = if 0 ≤ i ∧ i < (w : Int) then Q d k (pc + n) ls (zI (M a i) :: st) M else none := by
  subst hw
  by_cases h : 0 ≤ i ∧ i < (zln SH a : Int)
  · rw [if_pos h]
    exact s_x hf rfl rfl (by unfold zex; dsimp only; unfold zald; dsimp only; rw [if_pos ⟨hk, h⟩])
  · rw [if_neg h]
    exact s_x0 hf rfl rfl (by unfold zex; dsimp only; unfold zald; dsimp only; rw [if_neg (fun q => h q.2)])
theorem s_iast {i v : Int} {a : Nat} {w : Nat} (hf : zft k pc = some (n, .iastore)) (hk : zkn SH a = 20) (hw : zln SH a = w) : Q d k pc ls (zI v :: zI i :: zR a :: st) M = if 0 ≤ i ∧ i < (w : Int) then Q d k (pc + n) ls st (zwr M a i v) else none := by
  subst hw
  by_cases h : 0 ≤ i ∧ i < (zln SH a : Int)
  · rw [if_pos h]
    exact s_x hf rfl rfl (by unfold zex; dsimp only; unfold zast; dsimp only; rw [if_pos ⟨hk, h, rfl⟩])
  · rw [if_neg h]
    exact s_x0 hf rfl rfl (by unfold zex; dsimp only; unfold zast; dsimp only; rw [if_neg (fun q => h q.2.1)])
theorem s_cast {i v : Int} {a : Nat} {w : Nat} (hf : zft k pc = some (n, .castore)) (hk : zkn SH a = 21) (hw : zln SH a = w) : Q d k pc ls (zI v :: zI i :: zR a :: st) M = if (0 ≤ i ∧ i < (w : Int)) ∧ 0 ≤ v ∧ v < 65536 then Q d k (pc + n) ls st (zwr M a i v) else none := by
  subst hw
  by_cases h : (0 ≤ i ∧ i < (zln SH a : Int)) ∧ 0 ≤ v ∧ v < 65536
  · rw [if_pos h]
    exact s_x hf rfl rfl (by unfold zex; dsimp only; unfold zast; dsimp only; rw [if_pos ⟨hk, h.1, by simpa using h.2⟩])
  · rw [if_neg h]
    exact s_x0 hf rfl rfl (by unfold zex; dsimp only; unfold zast; dsimp only; rw [if_neg (fun q => h ⟨q.2.1, by simpa using q.2.2⟩)])
theorem s_bast {i v : Int} {a : Nat} {w : Nat} (hf : zft k pc = some (n, .bastore)) (hk : zkn SH a = 22) (hw : zln SH a = w) : Q d k pc ls (zI v :: zI i :: zR a :: st) M = if (0 ≤ i ∧ i < (w : Int)) ∧ (v = 0 ∨ v = 1) then Q d k (pc + n) ls st (zwr M a i v) else none := by
  subst hw
  by_cases h : (0 ≤ i ∧ i < (zln SH a : Int)) ∧ (v = 0 ∨ v = 1)
  · rw [if_pos h]
    exact s_x hf rfl rfl (by unfold zex; dsimp only; unfold zast; dsimp only; rw [if_pos ⟨hk, h.1, by simpa using h.2⟩])
  · rw [if_neg h]
    exact s_x0 hf rfl rfl (by unfold zex; dsimp only; unfold zast; dsimp only; rw [if_neg (fun q => h ⟨q.2.1, by simpa using q.2.2⟩)])
theorem s_aald {i : Int} {a : Nat} (hf : zft k pc = some (n, .aaload)) (hk : zkn SH a = 23 ∨ zkn SH a = 24) (q : Nat) (hi : 0 ≤ i ∧ i < (zln SH a : Int)) (hq : zrf SH a i.toNat = q + 1) : Q d k pc ls (zI i :: zR a :: st) M = Q d k (pc + n) ls (zR q :: st) M := s_x hf rfl rfl (by
  unfold zex
  dsimp only
  unfold zaal
  dsimp only
  rw [if_pos ⟨hk, hi⟩, hq])
theorem s_alen {a w : Nat} (hf : zft k pc = some (n, .arraylength)) (hk : zkn SH a = 20) (hw : zln SH a = w) : Q d k pc ls (zR a :: st) M = Q d k (pc + n) ls (zI w :: st) M := s_x hf rfl rfl (by
  unfold zex
  dsimp only
  unfold zalen
  dsimp only
  rw [if_neg (SH_sc hk (by decide)), if_pos (by omega), hw])
theorem zjm {pc t : Nat} {off : Int} (h : (pc : Int) + off = (t : Int)) : zjmp pc off = t := by unfold zjmp; omega
theorem s_goto {off : Int} (t : Nat) (hf : zft k pc = some (n, .goto off)) (ht : (pc : Int) + off = (t : Int)) : Q d k pc ls st M = Q d k t ls st M := s_x hf rfl rfl (by show some _ = _; rw [zjm ht])
theorem s_if {cd : Jvm.ClassFile.Cond} {off : Int} {x : Int} {P : Prop} {iP : Decidable P} (t : Nat) (hf : zft k pc = some (n, .ifCond cd off)) (ht : (pc : Int) + off = (t : Int)) (hP : zcmp cd x 0 = decide P) : Q d k pc ls (zI x :: st) M = if P then Q d k t ls st M else Q d k (pc + n) ls st M := by
  by_cases h : P
  · rw [if_pos h]
    exact s_x hf rfl rfl (by show some _ = _; rw [hP, if_pos (decide_eq_true h), zjm ht])
  · rw [if_neg h]
    exact s_x hf rfl rfl (by show some _ = _; rw [hP, if_neg (by rw [decide_eq_false h]; decide)])
theorem s_icmp {cd : Jvm.ClassFile.Cond} {off : Int} {x y : Int} {P : Prop} {iP : Decidable P} (t : Nat) (hf : zft k pc = some (n, .if_icmp cd off)) (ht : (pc : Int) + off = (t : Int)) (hP : zcmp cd x y = decide P) : Q d k pc ls (zI y :: zI x :: st) M = if P then Q d k t ls st M else Q d k (pc + n) ls st M := by
  by_cases h : P
  · rw [if_pos h]
    exact s_x hf rfl rfl (by show some _ = _; rw [hP, if_pos (decide_eq_true h), zjm ht])
  · rw [if_neg h]
    exact s_x hf rfl rfl (by show some _ = _; rw [hP, if_neg (by rw [decide_eq_false h]; decide)])
theorem s_abs {x : Nat} {y : Int} (hf : zft k pc = some (n, .invokestatic x)) (hl : zMl.lookup (zky (zown k) x) = some (0, 8)) (hs : ((zI y :: st).map zct).sum ≤ 12) : Q d k pc ls (zI y :: st) M = Q d k (pc + n) ls (zI (if 0 ≤ y then y else zw (0 - y)) :: st) M := s_x hf rfl (by unfold zcal; dsimp only; rw [hl]; rfl) (by unfold zex; dsimp only; rw [hl, Option.bind_some, if_pos hs]; rfl)
theorem s_max {x : Nat} {y z : Int} (hf : zft k pc = some (n, .invokestatic x)) (hl : zMl.lookup (zky (zown k) x) = some (0, 9)) (hs : ((zI z :: zI y :: st).map zct).sum ≤ 12) : Q d k pc ls (zI z :: zI y :: st) M = Q d k (pc + n) ls (zI (if y < z then z else y) :: st) M := s_x hf rfl (by unfold zcal; dsimp only; rw [hl]; rfl) (by unfold zex; dsimp only; rw [hl, Option.bind_some, if_pos hs]; rfl)
theorem s_min {x : Nat} {y z : Int} (hf : zft k pc = some (n, .invokestatic x)) (hl : zMl.lookup (zky (zown k) x) = some (0, 10)) (hs : ((zI z :: zI y :: st).map zct).sum ≤ 12) : Q d k pc ls (zI z :: zI y :: st) M = Q d k (pc + n) ls (zI (if z < y then z else y) :: st) M := s_x hf rfl (by unfold zcal; dsimp only; rw [hl]; rfl) (by unfold zex; dsimp only; rw [hl, Option.bind_some, if_pos hs]; rfl)
theorem s_iret {x : Int} (hf : zft k pc = some (n, .ireturn)) (ht : zrty k = some .int) : Q d k pc ls [zI x] M = Rt (some (zI x)) M := by
  unfold Q
  rw [zrun_eq]
  unfold zgo
  rw [hf]
  dsimp only
  have e : zret k .ireturn [zI x] = some (some (zI x)) := by unfold zret; dsimp only; rw [if_pos (Or.inl ht)]
  rw [e]
  rfl
theorem s_zret {x : Int} (hf : zft k pc = some (n, .ireturn)) (ht : zrty k = some .boolean) (hx : x = 0 ∨ x = 1) : Q d k pc ls [zI x] M = Rt (some (zI x)) M := by
  unfold Q
  rw [zrun_eq]
  unfold zgo
  rw [hf]
  dsimp only
  have e : zret k .ireturn [zI x] = some (some (zI x)) := by unfold zret; dsimp only; rw [if_pos (Or.inr ⟨ht, hx⟩)]
  rw [e]
  rfl
theorem s_vret (hf : zft k pc = some (n, .return_)) (ht : zrty k = none) : Q d k pc ls [] M = Rt none M := by
  unfold Q
  rw [zrun_eq]
  unfold zgo
  rw [hf]
  dsimp only
  have e : zret k .return_ [] = some none := by unfold zret; dsimp only; rw [if_pos ht]
  rw [e]
  rfl
theorem s_call {i : Instr} {k' kd : Nat} (as rest : List ZV) (hf : zft k pc = some (n, i)) (hr : zret k i st = none) (hc : zcal (zown k) i = some (k', kd)) (hs : st = as.reverse ++ rest) (hn : as.length = znA k') (h8 : (rest.map zct).sum ≤ 8) (hv : zrcv k' kd as (SH, M) = true) : Q d k pc ls st M = Cb (E d k' as M) (fun v h => zrun (zevl d) k (pc + n) ls (v.toList ++ rest) h) := by
  have e1 : (st.take (znA k')).reverse = as := by
    rw [hs, List.take_append_of_le_length (by rw [List.length_reverse]; omega), List.take_of_length_le (by rw [List.length_reverse]; omega), List.reverse_reverse]
  have e2 : st.drop (znA k') = rest := by
    rw [hs, ← hn, ← List.length_reverse, List.drop_left]
  unfold Q
  rw [zrun_eq]
  unfold zgo
  rw [hf]
  dsimp only
  rw [hr]
  dsimp only
  rw [hc]
  dsimp only
  rw [e1, e2, if_pos ⟨by rw [hs, List.length_append, List.length_reverse]; omega, h8, hv⟩]
  rfl
theorem e_in {as : List ZV} (hl : (as.flatMap (fun v => if zct v = 2 then [v, zU] else [v])).length ≤ zmax k) : E (d + 1) k as M = Q d k 0 (zent (zmax k) as) [] M := by
  show (if (as.flatMap (fun v => if zct v = 2 then [v, zU] else [v])).length ≤ zmax k then zrun (zevl d) k 0 (zent (zmax k) as) [] (SH, M) else none) = _
  rw [if_pos hl]
  rfl
end
