/-! counting, first places, least places, loops -/
theorem Cb_I {d k pc : Nat} {ls rest : List ZV} {x : ZV} {M : ZM} : Cb (Rt (some x) M) (fun v h => zrun (zevl d) k pc ls (v.toList ++ rest) h) = Q d k pc ls (x :: rest) M := rfl
theorem Cb_V {d k pc : Nat} {ls rest : List ZV} {M : ZM} : Cb (Rt none M) (fun v h => zrun (zevl d) k pc ls (v.toList ++ rest) h) = Q d k pc ls rest M := rfl
theorem zw_id {x : Int} (h : -2147483648 ≤ x ∧ x < 2147483648) : zw x = x := by unfold zw; omega
theorem Rt_cg {x y : Int} {M : ZM} (h : x = y) : Rt (some (zI x)) M = Rt (some (zI y)) M := by rw [h]
noncomputable def bI (p : Prop) : Int := @ite Int p (Classical.propDecidable p) 1 0
section
variable {p q : Prop}
theorem bI_t (h : p) : bI p = 1 := by unfold bI; exact if_pos h
theorem bI_f (h : ¬ p) : bI p = 0 := by unfold bI; exact if_neg h
theorem bI_01 : bI p = 0 ∨ bI p = 1 := by
  by_cases h : p
  · exact Or.inr (bI_t h)
  · exact Or.inl (bI_f h)
theorem bI_0 : bI p = 0 ↔ ¬ p := by
  by_cases h : p
  · rw [bI_t h]; exact ⟨fun q => absurd q (by decide), fun q => absurd h q⟩
  · rw [bI_f h]; exact ⟨fun _ => h, fun _ => rfl⟩
theorem bI_1 : bI p = 1 ↔ p := by
  by_cases h : p
  · rw [bI_t h]; exact ⟨fun _ => h, fun _ => rfl⟩
  · rw [bI_f h]; exact ⟨fun q => absurd q (by decide), fun q => absurd q h⟩
theorem bI_n0 : bI p ≠ 0 ↔ p := by rw [Ne, bI_0, Classical.not_not]
theorem bI_cg (h : p ↔ q) : bI p = bI q := by rw [propext h]
theorem bI_ite {i : Decidable p} : (if p then (1 : Int) else 0) = bI p := by
  by_cases h : p
  · rw [if_pos h, bI_t h]
  · rw [if_neg h, bI_f h]
end
-- numbers of places, sums
noncomputable def cN (p : Int → Prop) (n : Nat) : Int := match n with
  | 0 => 0
  | n + 1 => cN p n + bI (p n)
noncomputable def cn (p : Int → Prop) (n : Int) : Int := cN p n.toNat
def sN (f : Int → Int) (n : Nat) : Int := match n with
  | 0 => 0
  | n + 1 => sN f n + f n
def sm (f : Int → Int) (n : Int) : Int := sN f n.toNat
theorem toN_s {n : Int} (h : 0 ≤ n) : (n + 1).toNat = n.toNat + 1 := by omega
section
variable {p q : Int → Prop} {f g : Int → Int} {n : Int}
theorem cn_0 : cn p 0 = 0 := rfl
theorem cn_s (h : 0 ≤ n) : cn p (n + 1) = cn p n + bI (p n) := by
  unfold cn
  rw [toN_s h]
  show cN p n.toNat + bI (p (n.toNat : Int)) = _
  rw [Int.toNat_of_nonneg h]
theorem sm_0 : sm f 0 = 0 := rfl
theorem sm_s (h : 0 ≤ n) : sm f (n + 1) = sm f n + f n := by
  unfold sm
  rw [toN_s h]
  show sN f n.toNat + f (n.toNat : Int) = _
  rw [Int.toNat_of_nonneg h]
theorem cN_cg : ∀ (m : Nat), (∀ i : Int, 0 ≤ i → i < m → (p i ↔ q i)) → cN p m = cN q m
  | 0, _ => rfl
  | m + 1, h => by
    show cN p m + bI (p m) = cN q m + bI (q m)
    rw [cN_cg m (fun i h0 h1 => h i h0 (by omega)), bI_cg (h m (by omega) (by omega))]
theorem cn_cg (h : ∀ i, 0 ≤ i → i < n → (p i ↔ q i)) : cn p n = cn q n := cN_cg _ (fun i h0 h1 => h i h0 (by omega))
theorem sN_cg : ∀ (m : Nat), (∀ i : Int, 0 ≤ i → i < m → f i = g i) → sN f m = sN g m
  | 0, _ => rfl
  | m + 1, h => by
    show sN f m + f m = sN g m + g m
    rw [sN_cg m (fun i h0 h1 => h i h0 (by omega)), h m (by omega) (by omega)]
theorem sm_cg (h : ∀ i, 0 ≤ i → i < n → f i = g i) : sm f n = sm g n := sN_cg _ (fun i h0 h1 => h i h0 (by omega))
theorem cN_le : ∀ (m : Nat), 0 ≤ cN p m ∧ cN p m ≤ m
  | 0 => ⟨Int.le_refl 0, Int.le_refl 0⟩
  | m + 1 => by
    show 0 ≤ cN p m + bI (p m) ∧ cN p m + bI (p m) ≤ ((m + 1 : Nat) : Int)
    have h := @cN_le m
    have h1 := @bI_01 (p m)
    omega
theorem cn_le (h : 0 ≤ n) : 0 ≤ cn p n ∧ cn p n ≤ n := by
  have h1 := @cN_le p n.toNat
  unfold cn
  omega
theorem sN_le {b : Int} (hb : 0 ≤ b) : ∀ (m : Nat), (∀ i : Int, 0 ≤ i → i < m → 0 ≤ f i ∧ f i ≤ b) → 0 ≤ sN f m ∧ sN f m ≤ b * m
  | 0, _ => ⟨Int.le_refl 0, by show (0 : Int) ≤ b * 0; omega⟩
  | m + 1, h => by
    show 0 ≤ sN f m + f m ∧ sN f m + f m ≤ b * ((m + 1 : Nat) : Int)
    have h1 := sN_le hb m (fun i h0 h1 => h i h0 (by omega))
    have h2 := h m (by omega) (by omega)
    have h3 : b * ((m + 1 : Nat) : Int) = b * (m : Int) + b := by
      rw [Int.natCast_add, Int.mul_add]
      show _ + b * 1 = _
      rw [Int.mul_one]
    omega
theorem sm_le {b : Int} (hb : 0 ≤ b) (h0 : 0 ≤ n) (h : ∀ i : Int, 0 ≤ i → i < n → 0 ≤ f i ∧ f i ≤ b) : 0 ≤ sm f n ∧ sm f n ≤ b * n := by
  have h1 := sN_le (f := f) hb n.toNat (fun i h2 h3 => h i h2 (by omega))
  rw [Int.toNat_of_nonneg h0] at h1
  exact h1
end
-- the first place with a property, -1: there is none
noncomputable def fN (p : Int → Prop) (n : Nat) : Int := match n with
  | 0 => -1
  | n + 1 => if 0 ≤ fN p n then fN p n else if bI (p n) = 1 then (n : Int) else -1
noncomputable def fs (p : Int → Prop) (n : Int) : Int := fN p n.toNat
section
variable {p q : Int → Prop} {n : Int}
theorem fN_sp : ∀ (m : Nat), (fN p m = -1 ∧ ∀ j : Int, 0 ≤ j → j < m → ¬ p j) ∨ ((0 ≤ fN p m ∧ fN p m < m) ∧ p (fN p m) ∧ ∀ j : Int, 0 ≤ j → j < fN p m → ¬ p j)
  | 0 => Or.inl ⟨rfl, fun j h0 h1 => absurd h1 (by omega)⟩
  | m + 1 => by
    have e : fN p (m + 1) = if 0 ≤ fN p m then fN p m else if bI (p m) = 1 then (m : Int) else -1 := rfl
    rcases fN_sp m with ⟨h1, h2⟩ | ⟨h1, h2, h3⟩
    · rw [if_neg (by omega)] at e
      by_cases h : p m
      · rw [if_pos (bI_t h)] at e
        rw [e]
        exact Or.inr ⟨by omega, h, fun j h0 h1 => h2 j h0 (by omega)⟩
      · rw [if_neg (by rw [bI_1]; exact h)] at e
        rw [e]
        refine Or.inl ⟨rfl, fun j h0 h1 => ?_⟩
        by_cases hj : j = m
        · rw [hj]; exact h
        · exact h2 j h0 (by omega)
    · rw [if_pos h1.1] at e
      rw [e]
      exact Or.inr ⟨by omega, h2, h3⟩
theorem fs_sp (h : 0 ≤ n) : (fs p n = -1 ∧ ∀ j, 0 ≤ j → j < n → ¬ p j) ∨ ((0 ≤ fs p n ∧ fs p n < n) ∧ p (fs p n) ∧ ∀ j, 0 ≤ j → j < fs p n → ¬ p j) := by
  have h1 := @fN_sp p n.toNat
  rw [Int.toNat_of_nonneg h] at h1
  exact h1
theorem fs_at {i : Int} (h0 : 0 ≤ i ∧ i < n) (h1 : p i) (h2 : ∀ j, 0 ≤ j → j < i → ¬ p j) : fs p n = i := by
  rcases @fs_sp p n (by omega) with ⟨h3, h4⟩ | ⟨h3, h4, h5⟩
  · exact absurd h1 (h4 i h0.1 h0.2)
  · by_cases a : fs p n < i
    · exact absurd h4 (h2 _ h3.1 a)
    · by_cases b : i < fs p n
      · exact absurd h1 (h5 i h0.1 b)
      · omega
theorem fs_no (h : ∀ j, 0 ≤ j → j < n → ¬ p j) : fs p n = -1 := by
  by_cases hn : 0 ≤ n
  · rcases @fs_sp p n hn with ⟨h3, _⟩ | ⟨h3, h4, _⟩
    · exact h3
    · exact absurd h4 (h _ h3.1 h3.2)
  · unfold fs
    rw [show n.toNat = 0 by omega]
    rfl
theorem fs_cg (h : ∀ i, 0 ≤ i → i < n → (p i ↔ q i)) : fs p n = fs q n := by
  by_cases hn : 0 ≤ n
  · rcases @fs_sp q n hn with ⟨h3, h4⟩ | ⟨h3, h4, h5⟩
    · rw [h3]; exact fs_no (fun j a b c => h4 j a b ((h j a b).1 c))
    · exact fs_at h3 ((h _ h3.1 h3.2).2 h4) (fun j a b c => h5 j a b ((h j a (by omega)).1 c))
  · unfold fs
    rw [show n.toNat = 0 by omega]
    rfl
theorem fs_rg (h : 0 ≤ n) : -1 ≤ fs p n ∧ fs p n < n ∨ fs p n = -1 := by
  rcases @fs_sp p n h with ⟨h3, h4⟩ | ⟨h3, h4, h5⟩ <;> omega
end
-- the lowest place where a number is least, of those with a property
noncomputable def aN (p : Int → Prop) (f : Int → Int) (n : Nat) : Int := match n with
  | 0 => -1
  | n + 1 => if bI (p n ∧ (aN p f n = -1 ∨ f n < f (aN p f n))) = 1 then (n : Int) else aN p f n
noncomputable def am (p : Int → Prop) (f : Int → Int) (n : Int) : Int := aN p f n.toNat
section
variable {p q : Int → Prop} {f g : Int → Int} {n : Int}
theorem am_0 : am p f 0 = -1 := rfl
theorem am_s (h : 0 ≤ n) : am p f (n + 1) = if bI (p n ∧ (am p f n = -1 ∨ f n < f (am p f n))) = 1 then n else am p f n := by
  unfold am
  rw [toN_s h]
  show (if bI (p (n.toNat : Int) ∧ (aN p f n.toNat = -1 ∨ f (n.toNat : Int) < f (aN p f n.toNat))) = 1 then (n.toNat : Int) else aN p f n.toNat) = _
  rw [Int.toNat_of_nonneg h]
theorem am_y (h : 0 ≤ n) (h1 : p n) (h2 : am p f n = -1 ∨ f n < f (am p f n)) : am p f (n + 1) = n := by rw [am_s h, if_pos (bI_t ⟨h1, h2⟩)]
theorem am_n (h : 0 ≤ n) (h1 : ¬ (p n ∧ (am p f n = -1 ∨ f n < f (am p f n)))) : am p f (n + 1) = am p f n := by rw [am_s h, if_neg (by rw [bI_1]; exact h1)]
theorem aN_sp : ∀ m : Nat, (aN p f m = -1 ∧ ∀ j : Int, 0 ≤ j → j < m → ¬ p j) ∨ ((0 ≤ aN p f m ∧ aN p f m < m) ∧ p (aN p f m))
  | 0 => Or.inl ⟨rfl, fun j h0 h1 => absurd h1 (by omega)⟩
  | m + 1 => by
    have e : aN p f (m + 1) = if bI (p m ∧ (aN p f m = -1 ∨ f m < f (aN p f m))) = 1 then (m : Int) else aN p f m := rfl
    by_cases h : p m ∧ (aN p f m = -1 ∨ f m < f (aN p f m))
    · rw [if_pos (bI_t h)] at e
      rw [e]
      exact Or.inr ⟨by omega, h.1⟩
    · rw [if_neg (by rw [bI_1]; exact h)] at e
      rw [e]
      rcases aN_sp m with ⟨h1, h2⟩ | ⟨h1, h2⟩
      · refine Or.inl ⟨h1, fun j h0 h3 => ?_⟩
        by_cases hj : j = m
        · rw [hj]; exact fun c => h ⟨c, Or.inl h1⟩
        · exact h2 j h0 (by omega)
      · exact Or.inr ⟨by omega, h2⟩
theorem am_sp (h : 0 ≤ n) : (am p f n = -1 ∧ ∀ j, 0 ≤ j → j < n → ¬ p j) ∨ ((0 ≤ am p f n ∧ am p f n < n) ∧ p (am p f n)) := by
  have h1 := @aN_sp p f n.toNat
  rw [Int.toNat_of_nonneg h] at h1
  exact h1
theorem aN_cg : ∀ m : Nat, (∀ i : Int, 0 ≤ i → i < m → (p i ↔ q i)) → (∀ i : Int, 0 ≤ i → i < m → p i → f i = g i) → aN p f m = aN q g m
  | 0, _, _ => rfl
  | m + 1, h, h' => by
    have e : aN p f (m + 1) = if bI (p m ∧ (aN p f m = -1 ∨ f m < f (aN p f m))) = 1 then (m : Int) else aN p f m := rfl
    have e' : aN q g (m + 1) = if bI (q m ∧ (aN q g m = -1 ∨ g m < g (aN q g m))) = 1 then (m : Int) else aN q g m := rfl
    have i := aN_cg m (fun i h0 h1 => h i h0 (by omega)) (fun i h0 h1 => h' i h0 (by omega))
    rw [e, e', ← i]
    have k : (p m ∧ (aN p f m = -1 ∨ f m < f (aN p f m))) ↔ (q m ∧ (aN p f m = -1 ∨ g m < g (aN p f m))) := by
      rw [← h m (by omega) (by omega)]
      refine and_congr_right fun hp => ?_
      rcases @aN_sp p f m with ⟨h1, h2⟩ | ⟨h1, h2⟩
      · rw [h1]; exact ⟨fun _ => Or.inl rfl, fun _ => Or.inl rfl⟩
      · rw [h' m (by omega) (by omega) hp, h' _ h1.1 (by omega) h2]
    rw [bI_cg k]
theorem am_cg (h : ∀ i, 0 ≤ i → i < n → (p i ↔ q i)) (h' : ∀ i, 0 ≤ i → i < n → p i → f i = g i) : am p f n = am q g n := aN_cg _ (fun i h0 h1 => h i h0 (by omega)) (fun i h0 h1 => h' i h0 (by omega))
end
-- loops
theorem lp {σ : Type} {β : Type} (F : σ → β) (R : β → Prop) (mu : σ → Nat) (P : σ → Prop) (hs : ∀ s, P s → R (F s) ∨ ∃ s', F s = F s' ∧ P s' ∧ mu s' < mu s) : ∀ s, P s → R (F s) := by
  intro s
  generalize hm : mu s = m
  induction m using Nat.strongRecOn generalizing s with
  | _ m ih =>
    intro h
    rcases hs s h with h1 | ⟨s', h1, h2, h3⟩
    · exact h1
    · rw [h1]
      exact ih (mu s') (by omega) s' rfl h2
/-- an index that goes up to n beside a state -/
theorem lpi {σ : Type} {β : Type} (F : Int → σ → β) (R : β → Prop) (n : Int) (P : Int → σ → Prop) (hs : ∀ i s, 0 ≤ i → i < n → P i s → R (F i s) ∨ ∃ s', F i s = F (i + 1) s' ∧ P (i + 1) s') (he : ∀ s, P n s → R (F n s)) (i : Int) (s : σ) (h0 : 0 ≤ i ∧ i ≤ n) (h : P i s) : R (F i s) := by
  refine lp (fun x : Int × σ => F x.1 x.2) R (fun x => (n - x.1).toNat) (fun x => (0 ≤ x.1 ∧ x.1 ≤ n) ∧ P x.1 x.2) ?_ (i, s) ⟨h0, h⟩
  rintro ⟨i, s⟩ ⟨h0, h⟩
  dsimp only at h0 h ⊢
  by_cases hn : i = n
  · subst hn
    exact Or.inl (he s h)
  · rcases hs i s h0.1 (by omega) h with h1 | ⟨s', h1, h2⟩
    · exact Or.inl h1
    · exact Or.inr ⟨(i + 1, s'), h1, ⟨by dsimp only; omega, h2⟩, by dsimp only; omega⟩
