/-! what every step keeps: ints in range, shapes of the right lengths, no cell lost -/
def zrg (n : Int) : Prop := -2147483648 ≤ n ∧ n < 2147483648
def zok (v : ZV) : Prop := match v with
  | .inl n => zrg n
  | _ => True
def zoks (l : List ZV) : Prop := ∀ v, v ∈ l → zok v
def zcok (c : Nat × Nat × List Nat) : Prop := c.2.2.length = c.2.1 ∧ (c.1 < 20 → c.1 < 11 ∧ c.2.1 = (zFk.getD c.1 []).length) ∧ c.1 < 25 ∧ c.2.1 ≤ 1000
def zinv (h : ZH) : Prop := (∀ c, c ∈ h.1 → zcok c) ∧ (∀ a i, zrg (h.2 a i)) ∧ h.1.length ≤ 3000
def ztot (s : ZS) : Nat := (s.map (fun c => c.2.1)).sum
def zle (h h' : ZH) : Prop := h.1.length ≤ h'.1.length ∧ ztot h.1 ≤ ztot h'.1 ∧ ∀ j, h'.2 zSC j = h.2 zSC j
/-- an instruction's length and its constant are as they must be -/
def zstat (i : Instr) (n : Nat) : Bool := match i with
  | .iconst c => decide (-1 ≤ c ∧ c ≤ 5) && n == 1
  | .bipush c => decide (-128 ≤ c ∧ c < 128) && n == 2
  | .sipush c => decide (-32768 ≤ c ∧ c < 32768) && n == 3
  | .iinc _ c => decide (-128 ≤ c ∧ c < 128) && n == 3
  | .ldc _ => n == 2
  | .ldc_w _ => n == 3
  | .ldc2_w _ => n == 3
  | .iload _ => n == 2
  | .aload _ => n == 2
  | .lload _ => n == 2
  | .istore _ => n == 2
  | .lstore _ => n == 2
  | .getfield _ => n == 3
  | .putfield _ => n == 3
  | .ifCond _ _ => n == 3
  | .if_icmp _ _ => n == 3
  | .goto _ => n == 3
  | .tableswitch _ _ _ _ => true
  | .lookupswitch _ ps => (ps.toList.zip (ps.toList.drop 1)).all (fun q => decide (q.1.1 < q.2.1))
  | .new _ => n == 3
  | .newarray t => n == 2 && decide (zatk t < 99)
  | .anewarray _ => n == 3
  | .multianewarray _ _ => n == 4
  | .invokevirtual _ => n == 3
  | .invokestatic _ => n == 3
  | .invokespecial _ => n == 3
  | _ => n == 1
theorem zstat_all : zCodes.all (fun c => c.all (fun q => zstat q.2.2 q.2.1)) = true := by decide +kernel
theorem zft_mem {k pc n : Nat} {i : Instr} (h : zft k pc = some (n, i)) : (pc, n, i) ∈ zCodes.getD k [] := by
  unfold zft at h
  obtain ⟨q, hq, he⟩ := Option.map_eq_some_iff.mp h
  have h1 := List.find?_some hq
  have h2 := List.mem_of_find?_eq_some hq
  obtain ⟨a, b⟩ := q
  simp only [beq_iff_eq] at h1
  subst h1
  simp only at he
  rw [← he]
  exact h2
theorem zft_stat {k pc n : Nat} {i : Instr} (h : zft k pc = some (n, i)) : zstat i n = true := by
  have h1 := zft_mem h
  by_cases hk : k < zCodes.length
  · rw [List.getD_eq_getElem?_getD, List.getElem?_eq_getElem hk, Option.getD_some] at h1
    exact List.all_eq_true.mp (List.all_eq_true.mp zstat_all _ (List.getElem_mem hk)) _ h1
  · rw [List.getD_eq_getElem?_getD, List.getElem?_eq_none (by omega), Option.getD_none] at h1
    cases h1
theorem zrg_w (x : Int) : zrg (zw x) := by unfold zrg zw; omega
theorem zrg_i (x : Int32) : zrg x.toInt := ⟨by have := Int32.le_toInt x; omega, by have := Int32.toInt_lt x; omega⟩
theorem zlook_mem {α β : Type} [BEq α] [LawfulBEq α] {l : List (α × β)} {a : α} {b : β} (h : l.lookup a = some b) : (a, b) ∈ l := by
  induction l with
  | nil => cases h
  | cons q l ih =>
    obtain ⟨x, y⟩ := q
    rw [List.lookup_cons] at h
    split at h
    · next hh =>
      rw [eq_of_beq hh]
      cases h
      exact List.mem_cons_self
    · exact List.mem_cons_of_mem _ (ih h)
theorem zKi_rg {x : Nat} {v : Int} (h : zKi.lookup x = some v) : zrg v := by
  have h1 : ∀ q ∈ zKi, -2147483648 ≤ q.2 ∧ q.2 < 2147483648 := by decide +kernel
  exact h1 _ (zlook_mem h)
theorem zNl_ok {x ci : Nat} (h : zNl.lookup x = some ci) : ci < 11 := by
  have h1 : ∀ q ∈ zNl, q.2 < 11 := by decide +kernel
  exact h1 _ (zlook_mem h)
theorem zoks_c {v : ZV} {l : List ZV} (h : zoks (v :: l)) : zok v ∧ zoks l := ⟨h v List.mem_cons_self, fun w hw => h w (List.mem_cons_of_mem _ hw)⟩
theorem zoks_k {v : ZV} {l : List ZV} (h : zok v) (h1 : zoks l) : zoks (v :: l) := fun w hw => by
  rcases List.mem_cons.mp hw with rfl | hw
  · exact h
  · exact h1 w hw
theorem zoks_set {l : List ZV} (h : zoks l) (j : Nat) {v : ZV} (hv : zok v) : zoks (l.set j v) := fun w hw => by
  rcases List.mem_or_eq_of_mem_set hw with hw | rfl
  · exact h w hw
  · exact hv
theorem zoks_fx {l : List ZV} (h : zoks l) (j : Nat) : zoks (zfx l j) := by
  unfold zfx
  split
  · exact h
  · split
    · exact zoks_set h _ trivial
    · exact h
theorem zoks_s1 {l l' : List ZV} {j : Nat} {v : ZV} (h : zoks l) (hv : zok v) (e : zs1 l j v = some l') : zoks l' := by
  unfold zs1 at e
  split at e
  · cases e; exact zoks_set (zoks_fx h j) j hv
  · cases e
theorem zoks_s2 {l l' : List ZV} {j : Nat} {v : ZV} (h : zoks l) (hv : zok v) (e : zs2 l j v = some l') : zoks l' := by
  unfold zs2 at e
  split at e
  · cases e; exact zoks_set (zoks_set (zoks_fx h j) j hv) _ trivial
  · cases e
theorem zinv_wr {h : ZH} (hi : zinv h) (a : Nat) (i : Int) {v : Int} (hv : zrg v) : zinv (h.1, zwr h.2 a i v) := ⟨hi.1, fun b j => by
  show zrg (zwr h.2 a i v b j)
  unfold zwr
  split
  · exact hv
  · exact hi.2.1 b j, hi.2.2⟩
theorem zkn_lt {s : ZS} {a : Nat} (h : zkn s a < 99) : a < s.length := by
  by_cases hl : a < s.length
  · exact hl
  · unfold zkn at h
    rw [List.getD_eq_getElem?_getD, List.getElem?_eq_none (by omega), Option.getD_none] at h
    exact absurd h (by decide)
theorem zget_mem {s : ZS} {a : Nat} (h : a < s.length) : s.getD a (99, 0, []) ∈ s := by
  rw [List.getD_eq_getElem?_getD, List.getElem?_eq_getElem h, Option.getD_some]
  exact List.getElem_mem h
theorem zinv_sr {h : ZH} (hi : zinv h) {a : Nat} (k v : Nat) (ha : a < h.1.length) : zinv (zsr h.1 a k v, h.2) := ⟨fun c hc => by
  rcases List.mem_or_eq_of_mem_set hc with hc | rfl
  · exact hi.1 c hc
  · have := hi.1 _ (zget_mem ha)
    exact ⟨by rw [List.length_set]; exact this.1, this.2⟩, hi.2.1, by simp [zsr]; exact hi.2.2⟩
theorem ztot_set {s : ZS} {a : Nat} {c : Nat × Nat × List Nat} (h : c.2.1 = (s.getD a (99, 0, [])).2.1) : ztot (s.set a c) = ztot s := by
  unfold ztot
  rw [List.map_set]
  by_cases hl : a < s.length
  · have e : (s.map (fun c => c.2.1)).set a c.2.1 = s.map (fun c => c.2.1) := by
      refine List.ext_getElem (by simp) fun i h1 h2 => ?_
      rw [List.getElem_set]
      split
      · next hh =>
        subst hh
        rw [h, List.getD_eq_getElem?_getD, List.getElem?_eq_getElem hl]
        simp
      · rfl
    rw [e]
  · rw [List.set_eq_of_length_le (by simp; omega)]
theorem zle_sr {h : ZH} (a k v : Nat) : zle h (zsr h.1 a k v, h.2) := ⟨by simp [zsr], by rw [show ztot (zsr h.1 a k v) = ztot h.1 from ztot_set rfl]; exact Nat.le_refl _, fun _ => rfl⟩
theorem zle_rf (h : ZH) : zle h h := ⟨Nat.le_refl _, Nat.le_refl _, fun _ => rfl⟩
theorem zle_wr {h : ZH} (hi : zinv h) {a : Nat} (ha : a < h.1.length) (i v : Int) : zle h (h.1, zwr h.2 a i v) := ⟨Nat.le_refl _, Nat.le_refl _, fun j => by
  have := hi.2.2
  show zwr h.2 a i v zSC j = _
  unfold zwr
  rw [if_neg (fun q => by have := q.1; unfold zSC at this; omega)]⟩
theorem zle_tr {a b c : ZH} (h1 : zle a b) (h2 : zle b c) : zle a c := ⟨Nat.le_trans h1.1 h2.1, Nat.le_trans h1.2.1 h2.2.1, fun j => (h2.2.2 j).trans (h1.2.2 j)⟩
theorem zle_app {h : ZH} (hi : zinv h) (t : ZS) {a c : Nat} (hc : a + c ≤ 4000) : zle h (h.1 ++ t, zzr h.2 a c) := ⟨by simp, by unfold ztot; simp, fun j => by
  show zzr h.2 a c zSC j = _
  unfold zzr
  rw [if_neg (fun q => by have := q.2; unfold zSC at this; omega)]⟩
theorem zrg_0 : zrg 0 := ⟨by decide, by decide⟩
theorem zinv_app {h : ZH} (hi : zinv h) {t : ZS} (ht : ∀ c, c ∈ t → zcok c) (hn : h.1.length + t.length ≤ 3000) (a c : Nat) : zinv (h.1 ++ t, zzr h.2 a c) := ⟨fun c hc => (List.mem_append.mp hc).elim (hi.1 c) (ht c), fun b j => by
  show zrg (zzr h.2 a c b j)
  unfold zzr
  split
  · exact zrg_0
  · exact hi.2.1 b j, by rw [List.length_append]; exact hn⟩
theorem zrg_if {c : Prop} [Decidable c] {x y : Int} (hx : zrg x) (hy : zrg y) : zrg (if c then x else y) := by split <;> assumption
def zgood (r : Nat × List ZV × List ZV × ZH) (h : ZH) : Prop := zoks r.2.1 ∧ zoks r.2.2.1 ∧ zinv r.2.2.2 ∧ zle h r.2.2.2
section
variable {o pc n j ci k kd : Nat} {ls st : List ZV} {h : ZH} {r : Nat × List ZV × List ZV × ZH}
theorem zg_push {v : Option ZV} (hl : zoks ls) (hs : zoks st) (hi : zinv h) (hv : ∀ x, v = some x → zok x) (e : zpush pc ls st h v = some r) : zgood r h := by
  obtain ⟨x, h1, rfl⟩ := Option.map_eq_some_iff.mp e
  exact ⟨hl, zoks_k (hv x h1) hs, hi, zle_rf h⟩
theorem zg_gi {v : ZV} (hl : zoks ls) (e : zgi ls j = some v) : zok v := by
  unfold zgi at e
  split at e
  · next hh => cases e; exact hl _ (List.mem_of_getElem? hh)
  · cases e
theorem zg_ga {v : ZV} (e : zga ls j = some v) : zok v := by
  unfold zga at e
  split at e
  · cases e; trivial
  · cases e
theorem zg_gl {v : ZV} (e : zgl ls j = some v) : zok v := by
  unfold zgl at e
  split at e
  · cases e; trivial
  · cases e
theorem zg_gd {v : ZV} (e : zgd ls j = some v) : zok v := by
  unfold zgd at e
  split at e
  · cases e; trivial
  · cases e
theorem zg_si (hl : zoks ls) (hs : zoks st) (hi : zinv h) (e : zsi pc ls st h j = some r) : zgood r h := by
  unfold zsi at e
  split at e
  · obtain ⟨l, h1, rfl⟩ := Option.map_eq_some_iff.mp e
    exact ⟨zoks_s1 hl (zoks_c hs).1 h1, (zoks_c hs).2, hi, zle_rf h⟩
  · cases e
theorem zg_sa (hl : zoks ls) (hs : zoks st) (hi : zinv h) (e : zsa pc ls st h j = some r) : zgood r h := by
  unfold zsa at e
  split at e
  · obtain ⟨l, h1, rfl⟩ := Option.map_eq_some_iff.mp e
    exact ⟨zoks_s1 hl (zoks_c hs).1 h1, (zoks_c hs).2, hi, zle_rf h⟩
  · cases e
theorem zg_sl (hl : zoks ls) (hs : zoks st) (hi : zinv h) (e : zsl pc ls st h j = some r) : zgood r h := by
  unfold zsl at e
  split at e
  · obtain ⟨l, h1, rfl⟩ := Option.map_eq_some_iff.mp e
    exact ⟨zoks_s2 hl (zoks_c hs).1 h1, (zoks_c hs).2, hi, zle_rf h⟩
  · cases e
theorem zg_sd (hl : zoks ls) (hs : zoks st) (hi : zinv h) (e : zsd pc ls st h j = some r) : zgood r h := by
  unfold zsd at e
  split at e
  · obtain ⟨l, h1, rfl⟩ := Option.map_eq_some_iff.mp e
    exact ⟨zoks_s2 hl (zoks_c hs).1 h1, (zoks_c hs).2, hi, zle_rf h⟩
  · cases e
theorem zg_bi {f : Int → Int → Option Int} (hl : zoks ls) (hs : zoks st) (hi : zinv h) (hf : ∀ x y v, zrg x → zrg y → f x y = some v → zrg v) (e : zbi pc ls st h f = some r) : zgood r h := by
  unfold zbi at e
  split at e
  · obtain ⟨l, h1, rfl⟩ := Option.map_eq_some_iff.mp e
    have q1 := zoks_c hs
    have q2 := zoks_c q1.2
    exact ⟨hl, zoks_k (hf _ _ _ q2.1 q1.1 h1) q2.2, hi, zle_rf h⟩
  · cases e
theorem zg_bl {f : Int64 → Int64 → ZV} (hl : zoks ls) (hs : zoks st) (hi : zinv h) (hf : ∀ x y, zok (f x y)) (e : zbl pc ls st h f = some r) : zgood r h := by
  unfold zbl at e
  split at e
  · cases e
    exact ⟨hl, zoks_k (hf _ _) (zoks_c (zoks_c hs).2).2, hi, zle_rf h⟩
  · cases e
theorem zg_bd {f : UInt64 → UInt64 → Option ZV} (hl : zoks ls) (hs : zoks st) (hi : zinv h) (hf : ∀ x y v, f x y = some v → zok v) (e : zbd pc ls st h f = some r) : zgood r h := by
  unfold zbd at e
  split at e
  · obtain ⟨l, h1, rfl⟩ := Option.map_eq_some_iff.mp e
    exact ⟨hl, zoks_k (hf _ _ _ h1) (zoks_c (zoks_c hs).2).2, hi, zle_rf h⟩
  · cases e
theorem zg_get (hl : zoks ls) (hs : zoks st) (hi : zinv h) (e : zget ci k pc ls st h = some r) : zgood r h := by
  unfold zget at e
  split at e
  · split at e
    · split at e
      · split at e
        · cases e
        · cases e; exact ⟨hl, zoks_k trivial (zoks_c hs).2, hi, zle_rf h⟩
      · cases e; exact ⟨hl, zoks_k (hi.2.1 _ _) (zoks_c hs).2, hi, zle_rf h⟩
    · cases e
  · cases e
theorem zg_put (hci : ci < 99) (hl : zoks ls) (hs : zoks st) (hi : zinv h) (e : zput ci k pc ls st h = some r) : zgood r h := by
  unfold zput at e
  split at e
  · split at e
    · next hh => cases e; exact ⟨hl, (zoks_c (zoks_c hs).2).2, zinv_wr hi _ _ (zoks_c hs).1, zle_wr hi (zkn_lt (by rw [hh.1]; exact hci)) _ _⟩
    · cases e
  · split at e
    · next hh => cases e; exact ⟨hl, (zoks_c (zoks_c hs).2).2, zinv_sr hi _ _ (zkn_lt (by rw [hh.1]; exact hci)), zle_sr _ _ _⟩
    · cases e
  · cases e
theorem zg_ald (hl : zoks ls) (hs : zoks st) (hi : zinv h) (e : zald kd pc ls st h = some r) : zgood r h := by
  unfold zald at e
  split at e
  · split at e
    · cases e; exact ⟨hl, zoks_k (hi.2.1 _ _) (zoks_c (zoks_c hs).2).2, hi, zle_rf h⟩
    · cases e
  · cases e
theorem zg_sld (hl : zoks ls) (hs : zoks st) (hi : zinv h) (e : zsld pc ls st h = some r) : zgood r h := by
  unfold zsld at e
  split at e
  · split at e
    · split at e
      · cases e; exact ⟨hl, zoks_k (hi.2.1 _ _) (zoks_c (zoks_c hs).2).2, hi, zle_rf h⟩
      · cases e
    · cases e
  · cases e
theorem zg_ast {ok : Int → Bool} (hkd : kd < 99) (hl : zoks ls) (hs : zoks st) (hi : zinv h) (e : zast kd pc ls st h ok = some r) : zgood r h := by
  unfold zast at e
  split at e
  · split at e
    · next hh => cases e; exact ⟨hl, (zoks_c (zoks_c (zoks_c hs).2).2).2, zinv_wr hi _ _ (zoks_c hs).1, zle_wr hi (zkn_lt (by rw [hh.1]; exact hkd)) _ _⟩
    · cases e
  · cases e
theorem zg_aal (hl : zoks ls) (hs : zoks st) (hi : zinv h) (e : zaal pc ls st h = some r) : zgood r h := by
  unfold zaal at e
  split at e
  · split at e
    · split at e
      · cases e
      · cases e; exact ⟨hl, zoks_k trivial (zoks_c (zoks_c hs).2).2, hi, zle_rf h⟩
    · cases e
  · cases e
theorem zg_aas (hl : zoks ls) (hs : zoks st) (hi : zinv h) (e : zaas pc ls st h = some r) : zgood r h := by
  unfold zaas at e
  split at e
  · split at e
    · next hh => cases e; exact ⟨hl, (zoks_c (zoks_c (zoks_c hs).2).2).2, zinv_sr hi _ _ (zkn_lt (by rw [hh.1]; decide)), zle_sr _ _ _⟩
    · cases e
  · cases e
theorem zg_nat {kd : Nat} (hl : zoks ls) (hs : zoks st) (hi : zinv h) (e : znat kd pc ls st h = some r) : zgood r h := by
  unfold znat at e
  split at e
  · split at e
    · cases e; exact ⟨hl, zoks_k trivial (zoks_c hs).2, hi, zle_rf h⟩
    · cases e
  · split at e
    · cases e; exact ⟨hl, zoks_k (show zrg _ from zrg_if (zoks_c hs).1 (zrg_w _)) (zoks_c hs).2, hi, zle_rf h⟩
    · cases e
  · split at e
    · cases e; exact ⟨hl, zoks_k (show zrg _ from zrg_if (zoks_c hs).1 (zoks_c (zoks_c hs).2).1) (zoks_c (zoks_c hs).2).2, hi, zle_rf h⟩
    · cases e
  · split at e
    · cases e; exact ⟨hl, zoks_k (show zrg _ from zrg_if (zoks_c hs).1 (zoks_c (zoks_c hs).2).1) (zoks_c (zoks_c hs).2).2, hi, zle_rf h⟩
    · cases e
  · cases e
theorem zrg_ln (hi : zinv h) {a : Nat} (h1 : zkn h.1 a < 99) : zrg (zln h.1 a) := by
  have := (hi.1 _ (zget_mem (zkn_lt h1))).2.2.2
  have : zln h.1 a ≤ 1000 := this
  exact ⟨by omega, by omega⟩
theorem zg_alen (hl : zoks ls) (hs : zoks st) (hi : zinv h) (e : zalen pc ls st h = some r) : zgood r h := by
  unfold zalen at e
  split at e
  · split at e
    · split at e
      · next h1 => cases e; exact ⟨hl, zoks_k (show zrg _ from ⟨by omega, by have := (hi.2.1 zSC (-1)).2; omega⟩) (zoks_c hs).2, hi, zle_rf h⟩
      · cases e
    · split at e
      · next hh => cases e; exact ⟨hl, zoks_k (zrg_ln hi (by omega)) (zoks_c hs).2, hi, zle_rf h⟩
      · cases e
  · cases e
theorem zg_new (hci : ci < 11) (hl : zoks ls) (hs : zoks st) (hi : zinv h) (e : znew ci pc ls st h = some r) : zgood r h := by
  unfold znew at e
  split at e
  · cases e
  cases e
  refine ⟨hl, zoks_k trivial hs, zinv_app hi (fun c hc => ?_) (by show _ + 1 ≤ 3000; omega) _ _, zle_app hi _ (by have := hi.2.2; omega)⟩
  rcases List.mem_singleton.mp hc with rfl
  refine ⟨by simp, fun _ => ⟨hci, rfl⟩, by show ci < 25; omega, ?_⟩
  have h1 : ∀ l ∈ zFk, l.length ≤ 1000 := by decide +kernel
  show (zFk.getD ci []).length ≤ 1000
  rw [List.getD_eq_getElem?_getD]
  cases hg : zFk[ci]? with
  | none => decide
  | some l => exact h1 l (List.mem_of_getElem? hg)
theorem zg_nwa (hkd : 20 ≤ kd ∧ kd < 25) (hl : zoks ls) (hs : zoks st) (hi : zinv h) (e : znwa kd pc ls st h = some r) : zgood r h := by
  unfold znwa at e
  split at e
  · split at e
    · cases e
      refine ⟨hl, zoks_k trivial (zoks_c hs).2, zinv_app hi (fun c hc => ?_) (by show _ + 1 ≤ 3000; omega) _ _, zle_app hi _ (by have := hi.2.2; omega)⟩
      rcases List.mem_singleton.mp hc with rfl
      exact ⟨by simp, fun q => absurd q (by show ¬ kd < 20; omega), hkd.2, by show Int.toNat _ ≤ 1000; omega⟩
    · cases e
  · cases e
theorem zg_mna (hl : zoks ls) (hs : zoks st) (hi : zinv h) (e : zmna pc ls st h = some r) : zgood r h := by
  unfold zmna at e
  split at e
  · split at e
    · cases e
      refine ⟨hl, zoks_k trivial (zoks_c (zoks_c hs).2).2, zinv_app hi (fun c hc => ?_) (by simp; omega) _ _, zle_app hi _ (by have := hi.2.2; omega)⟩
      rcases List.mem_cons.mp hc with rfl | hc
      · exact ⟨by simp, fun q => absurd q (by show ¬ 24 < 20; decide), by show 24 < 25; decide, by show Int.toNat _ ≤ 1000; omega⟩
      · rcases List.mem_replicate.mp hc with ⟨-, rfl⟩
        exact ⟨by simp, fun q => absurd q (by show ¬ 20 < 20; decide), by show 20 < 25; decide, by show Int.toNat _ ≤ 1000; omega⟩
    · cases e
  · cases e
end
theorem zFl_ok {x : Nat} {q : Nat × Nat} (h : zFl.lookup x = some q) : q.1 < 11 ∧ q.2 < (zFk.getD q.1 []).length := by
  have h1 : ∀ q ∈ zFl, q.2.1 < 11 ∧ q.2.2 < (zFk.getD q.2.1 []).length := by decide +kernel
  exact h1 _ (zlook_mem h)
theorem zrg_cmp (x y : Int64) : zrg (lg_cmp x y).toInt := zrg_i _
theorem zrg_div {x y : Int} : zrg (zw (x.tdiv y)) := zrg_w _
theorem zrg_mod {x y : Int} (hx : zrg x) (hy : ¬ y = 0) (h : zrg y) : zrg (x.tmod y) := by
  unfold zrg at *
  have h1 := Int.tmod_lt_of_pos x (b := y)
  have h2 : (x.tmod y).natAbs ≤ x.natAbs := by rw [Int.natAbs_tmod]; exact Nat.mod_le _ _
  rcases Int.le_total 0 x with q | q
  · have := Int.tmod_nonneg y q
    omega
  · have h3 : 0 ≤ -(x.tmod y) := by rw [← Int.neg_tmod]; exact Int.tmod_nonneg y (by omega)
    omega

set_option maxHeartbeats 4000000 in
theorem zex_inv {o pc n : Nat} {i : Instr} {ls st : List ZV} {h : ZH} {r : Nat × List ZV × List ZV × ZH} (hst : zstat i n = true) (hl : zoks ls) (hs : zoks st) (hi : zinv h) (e : zex o i pc n ls st h = some r) : zgood r h := by
  have kk : ∀ {v : ZV}, zok v → zgood (pc + n, ls, v :: st, h) h := fun hv => ⟨hl, zoks_k hv hs, hi, zle_rf h⟩
  cases i
  case iconst c =>
    cases e
    simp only [zstat, Bool.and_eq_true, decide_eq_true_eq, beq_iff_eq] at hst
    exact kk (by show zrg c; unfold zrg; omega)
  case bipush c =>
    cases e
    simp only [zstat, Bool.and_eq_true, decide_eq_true_eq, beq_iff_eq] at hst
    exact kk (by show zrg c; unfold zrg; omega)
  case sipush c =>
    cases e
    simp only [zstat, Bool.and_eq_true, decide_eq_true_eq, beq_iff_eq] at hst
    exact kk (by show zrg c; unfold zrg; omega)
  case ldc x =>
    obtain ⟨v, h1, rfl⟩ := Option.map_eq_some_iff.mp e
    exact kk (zKi_rg h1)
  case ldc_w x =>
    obtain ⟨v, h1, rfl⟩ := Option.map_eq_some_iff.mp e
    exact kk (zKi_rg h1)
  case lconst c => cases e; exact kk trivial
  case ldc2_w x =>
    unfold zex at e
    dsimp only at e
    split at e
    · cases e; exact kk trivial
    · obtain ⟨v, h1, rfl⟩ := Option.map_eq_some_iff.mp e
      exact kk trivial
  case dconst d =>
    unfold zex at e
    dsimp only at e
    split at e
    · cases e; exact kk trivial
    · cases e
  case iload j => exact zg_push hl hs hi (fun x hx => zg_gi hl hx) e
  case iload_n j => exact zg_push hl hs hi (fun x hx => zg_gi hl hx) e
  case aload j => exact zg_push hl hs hi (fun x hx => zg_ga hx) e
  case aload_n j => exact zg_push hl hs hi (fun x hx => zg_ga hx) e
  case lload j => exact zg_push hl hs hi (fun x hx => zg_gl hx) e
  case dload_n j => exact zg_push hl hs hi (fun x hx => zg_gd hx) e
  case istore j => exact zg_si hl hs hi e
  case istore_n j => exact zg_si hl hs hi e
  case astore_n j => exact zg_sa hl hs hi e
  case lstore j => exact zg_sl hl hs hi e
  case dstore_n j => exact zg_sd hl hs hi e
  case iinc j c =>
    unfold zex at e
    dsimp only at e
    split at e
    · obtain ⟨l, h1, rfl⟩ := Option.map_eq_some_iff.mp e
      exact ⟨zoks_s1 hl (show zok (zI (zw _)) from zrg_w _) h1, hs, hi, zle_rf h⟩
    · cases e
  case getfield x =>
    obtain ⟨q, h1, h2⟩ := Option.bind_eq_some_iff.mp e
    exact zg_get hl hs hi h2
  case putfield x =>
    obtain ⟨q, h1, h2⟩ := Option.bind_eq_some_iff.mp e
    exact zg_put (by have := (zFl_ok h1).1; omega) hl hs hi h2
  case iaload =>
    unfold zex at e
    dsimp only at e
    split at e
    · next hh => cases e; exact zg_ald hl hs hi hh
    · exact zg_sld hl hs hi e
  case caload => exact zg_ald hl hs hi e
  case baload => exact zg_ald hl hs hi e
  case aaload => exact zg_aal hl hs hi e
  case iastore => exact zg_ast (by decide) hl hs hi e
  case castore => exact zg_ast (by decide) hl hs hi e
  case bastore => exact zg_ast (by decide) hl hs hi e
  case aastore => exact zg_aas hl hs hi e
  case arraylength => exact zg_alen hl hs hi e
  case dup =>
    unfold zex at e
    dsimp only at e
    split at e
    · split at e
      · cases e; exact ⟨hl, zoks_k (zoks_c hs).1 hs, hi, zle_rf h⟩
      · cases e
    · cases e
  case dup2 =>
    unfold zex at e
    dsimp only at e
    split at e
    · split at e
      · cases e; exact ⟨hl, zoks_k (zoks_c hs).1 (zoks_k (zoks_c (zoks_c hs).2).1 hs), hi, zle_rf h⟩
      · cases e
    · cases e
  case pop =>
    unfold zex at e
    dsimp only at e
    split at e
    · split at e
      · cases e; exact ⟨hl, (zoks_c hs).2, hi, zle_rf h⟩
      · cases e
    · cases e
  case iadd => exact zg_bi hl hs hi (fun x y v _ _ q => by cases q; exact zrg_w _) e
  case isub => exact zg_bi hl hs hi (fun x y v _ _ q => by cases q; exact zrg_w _) e
  case imul => exact zg_bi hl hs hi (fun x y v _ _ q => by cases q; exact zrg_w _) e
  case idiv =>
    refine zg_bi hl hs hi (fun x y v _ _ q => ?_) e
    split at q
    · cases q
    · cases q; exact zrg_w _
  case irem =>
    refine zg_bi hl hs hi (fun x y v hx hy q => ?_) e
    split at q
    · cases q
    · next hh => cases q; exact zrg_mod hx hh hy
  case iand => exact zg_bi hl hs hi (fun x y v _ _ q => by cases q; exact zrg_i _) e
  case ior => exact zg_bi hl hs hi (fun x y v _ _ q => by cases q; exact zrg_i _) e
  case ixor => exact zg_bi hl hs hi (fun x y v _ _ q => by cases q; exact zrg_i _) e
  case ishl => exact zg_bi hl hs hi (fun x y v _ _ q => by cases q; exact zrg_i _) e
  case ishr => exact zg_bi hl hs hi (fun x y v _ _ q => by cases q; exact zrg_i _) e
  case iushr => exact zg_bi hl hs hi (fun x y v _ _ q => by cases q; exact zrg_i _) e
  case ineg =>
    unfold zex at e
    dsimp only at e
    split at e
    · cases e; exact ⟨hl, zoks_k (zrg_w _) (zoks_c hs).2, hi, zle_rf h⟩
    · cases e
  case i2c =>
    unfold zex at e
    dsimp only at e
    split at e
    · split at e
      · cases e; exact ⟨hl, zoks_k (zoks_c hs).1 (zoks_c hs).2, hi, zle_rf h⟩
      · cases e
    · cases e
  case i2d =>
    unfold zex at e
    dsimp only at e
    split at e
    · cases e; exact ⟨hl, zoks_k trivial (zoks_c hs).2, hi, zle_rf h⟩
    · cases e
  case d2l =>
    unfold zex at e
    dsimp only at e
    split at e
    · cases e; exact ⟨hl, zoks_k trivial (zoks_c hs).2, hi, zle_rf h⟩
    · cases e
  case ladd => exact zg_bl (f := fun x y => zL (x + y)) hl hs hi (fun x y => trivial) e
  case lor => exact zg_bl (f := fun x y => zL (x ||| y)) hl hs hi (fun x y => trivial) e
  case lcmp => exact zg_bl (f := fun x y => zI (lg_cmp x y).toInt) hl hs hi (fun x y => zrg_i _) e
  case lshl =>
    unfold zex at e
    dsimp only at e
    split at e
    · cases e; exact ⟨hl, zoks_k trivial (zoks_c (zoks_c hs).2).2, hi, zle_rf h⟩
    · cases e
  case dsub =>
    refine zg_bd hl hs hi (fun x y v q => ?_) e
    unfold znan at q
    split at q
    · cases q; trivial
    · cases q
  case dmul =>
    refine zg_bd hl hs hi (fun x y v q => ?_) e
    unfold znan at q
    split at q
    · cases q; trivial
    · cases q
  case ddiv =>
    refine zg_bd hl hs hi (fun x y v q => ?_) e
    unfold znan at q
    split at q
    · cases q; trivial
    · cases q
  case dcmp c => exact zg_bd hl hs hi (fun x y v q => by cases q; exact zrg_i _) e
  case ifCond c off =>
    unfold zex at e
    dsimp only at e
    split at e
    · cases e; exact ⟨hl, (zoks_c hs).2, hi, zle_rf h⟩
    · cases e
  case if_icmp c off =>
    unfold zex at e
    dsimp only at e
    split at e
    · cases e; exact ⟨hl, (zoks_c (zoks_c hs).2).2, hi, zle_rf h⟩
    · cases e
  case goto off => cases e; exact ⟨hl, hs, hi, zle_rf h⟩
  case tableswitch d lo hi' offs =>
    unfold zex at e
    dsimp only at e
    split at e
    · split at e
      · cases e; exact ⟨hl, (zoks_c hs).2, hi, zle_rf h⟩
      · obtain ⟨l, h1, rfl⟩ := Option.map_eq_some_iff.mp e
        exact ⟨hl, (zoks_c hs).2, hi, zle_rf h⟩
    · cases e
  case lookupswitch d ps =>
    unfold zex at e
    dsimp only at e
    split at e
    · cases e; exact ⟨hl, (zoks_c hs).2, hi, zle_rf h⟩
    · cases e
  case new x =>
    obtain ⟨q, h1, h2⟩ := Option.bind_eq_some_iff.mp e
    exact zg_new (zNl_ok h1) hl hs hi h2
  case newarray t =>
    refine zg_nwa ?_ hl hs hi e
    simp only [zstat, Bool.and_eq_true, decide_eq_true_eq, beq_iff_eq] at hst
    revert hst
    cases t <;> simp [zatk]
  case anewarray x =>
    unfold zex at e
    dsimp only at e
    split at e
    · exact zg_nwa (by decide) hl hs hi e
    · cases e
  case multianewarray x d =>
    unfold zex at e
    dsimp only at e
    split at e
    · exact zg_mna hl hs hi e
    · cases e
  case invokespecial x =>
    unfold zex at e
    dsimp only at e
    split at e
    · split at e
      · cases e; exact ⟨hl, (zoks_c hs).2, hi, zle_rf h⟩
      · cases e
    · cases e
  case invokestatic x =>
    obtain ⟨q, h1, h2⟩ := Option.bind_eq_some_iff.mp e
    split at h2
    · exact zg_nat hl hs hi h2
    · cases h2
  all_goals cases e
/-- a callee keeps what must be kept -/
def zkeep (cal : Nat → List ZV → ZH → ZO) : Prop := ∀ k as h v h1, zoks as → zinv h → cal k as h = some (v, h1) → (∀ x, v = some x → zok x) ∧ zinv h1 ∧ zle h h1
theorem zret_ok {k : Nat} {i : Instr} {st : List ZV} {v : Option ZV} (hs : zoks st) (e : zret k i st = some v) : ∀ x, v = some x → zok x := by
  intro x hx
  subst hx
  cases i
  case ireturn =>
    unfold zret at e
    dsimp only at e
    split at e
    · split at e
      · cases e; exact (zoks_c hs).1
      · cases e
    · cases e
  case lreturn =>
    unfold zret at e
    dsimp only at e
    split at e
    · split at e
      · cases e; trivial
      · cases e
    · cases e
  case return_ =>
    unfold zret at e
    dsimp only at e
    split at e
    · split at e
      · cases e
      · cases e
    · cases e
  all_goals cases e
theorem zoks_take {l : List ZV} (h : zoks l) (n : Nat) : zoks (l.take n).reverse := fun v hv => h v (List.mem_of_mem_take (List.mem_reverse.mp hv))
theorem zoks_drop {l : List ZV} (h : zoks l) (n : Nat) : zoks (l.drop n) := fun v hv => h v (List.mem_of_mem_drop hv)
theorem zoks_v {v : Option ZV} {l : List ZV} (hv : ∀ x, v = some x → zok x) (h : zoks l) : zoks (v.toList ++ l) := fun w hw => by
  rcases List.mem_append.mp hw with hw | hw
  · cases v with
    | none => cases hw
    | some x => rcases List.mem_singleton.mp hw with rfl; exact hv _ rfl
  · exact h w hw
theorem zrn_keep {cal : Nat → List ZV → ZH → ZO} (hc : zkeep cal) {k : Nat} : ∀ (n pc : Nat) (ls st : List ZV) (h : ZH) (v : Option ZV) (h1 : ZH), zoks ls → zoks st → zinv h → zrn cal k n pc ls st h = some (v, h1) → (∀ x, v = some x → zok x) ∧ zinv h1 ∧ zle h h1
  | 0, _, _, _, _, _, _, _, _, _, e => by cases e
  | n + 1, pc, ls, st, h, v, h1, hl, hs, hi, e => by
    have e : zgo cal k (zrn cal k n) pc ls st h = some (v, h1) := e
    unfold zgo at e
    split at e
    · cases e
    · next hf =>
      split at e
      · next hr => cases e; exact ⟨zret_ok hs hr, hi, zle_rf h⟩
      · split at e
        · split at e
          · obtain ⟨⟨v', h'⟩, q1, q2⟩ := Option.bind_eq_some_iff.mp e
            obtain ⟨a1, a2, a3⟩ := hc _ _ _ _ _ (zoks_take hs _) hi q1
            obtain ⟨b1, b2, b3⟩ := zrn_keep hc n _ _ _ _ _ _ hl (zoks_v a1 (zoks_drop hs _)) a2 q2
            exact ⟨b1, b2, zle_tr a3 b3⟩
          · cases e
        · obtain ⟨r, q1, q2⟩ := Option.bind_eq_some_iff.mp e
          obtain ⟨a1, a2, a3, a4⟩ := zex_inv (zft_stat hf) hl hs hi q1
          obtain ⟨b1, b2, b3⟩ := zrn_keep hc n _ _ _ _ _ _ a1 a2 a3 q2
          exact ⟨b1, b2, zle_tr a4 b3⟩
theorem zoks_ent {mx : Nat} {as : List ZV} (h : zoks as) : zoks (zent mx as) := fun v hv => by
  unfold zent at hv
  rcases List.mem_append.mp hv with hv | hv
  · obtain ⟨w, h1, h2⟩ := List.mem_flatMap.mp hv
    split at h2
    · rcases List.mem_cons.mp h2 with rfl | h2
      · exact h _ h1
      · rcases List.mem_singleton.mp h2 with rfl; trivial
    · rcases List.mem_singleton.mp h2 with rfl; exact h _ h1
  · rcases List.mem_replicate.mp hv with ⟨-, rfl⟩; trivial
theorem zevl_keep : ∀ d, zkeep (zevl d)
  | 0 => fun _ _ _ _ _ _ _ e => by cases e
  | d + 1 => fun k as h v h1 ha hi e => by
    unfold zevl at e
    split at e
    · obtain ⟨n, hn⟩ := zrun_some e
      exact zrn_keep (zevl_keep d) n _ _ _ _ _ _ (zoks_ent ha) (fun v hv => by cases hv) hi hn
    · cases e
