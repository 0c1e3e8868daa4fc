/-! averages: the sum of the difficulties -/
theorem sN_mo {f h : Int → Int} : ∀ m : Nat, (∀ i : Int, 0 ≤ i → i < m → f i ≤ h i) → sN f m ≤ sN h m
  | 0, _ => Int.le_refl _
  | m + 1, k => by
    have a := sN_mo m (fun i i0 i1 => k i i0 (by omega))
    have b := k m (by omega) (by omega)
    show sN f m + f m ≤ sN h m + h m
    omega
theorem sm_mo {f h : Int → Int} {n : Int} (k : ∀ i, 0 ≤ i → i < n → f i ≤ h i) : sm f n ≤ sm h n := sN_mo _ (fun i i0 i1 => k i i0 (by omega))
theorem sN_1 : ∀ m : Nat, sN (fun _ => 1) m = m
  | 0 => rfl
  | m + 1 => by
    show sN (fun _ => 1) m + 1 = ((m + 1 : Nat) : Int)
    rw [sN_1 m]
    omega
theorem sN_c {b : Int} {f : Int → Int} (h : ∀ i : Int, f i = b) : ∀ m : Nat, sN f m = b * m
  | 0 => by show (0 : Int) = b * 0; omega
  | m + 1 => by
    show sN f m + f m = b * ((m + 1 : Nat) : Int)
    rw [sN_c h m, h, Int.natCast_add, Int.mul_add]
    show b * (m : Int) + b = b * (m : Int) + b * 1
    rw [Int.mul_one]
theorem sN_e (e : Int) : ∀ m : Nat, 10 * (m : Int) - 10 ≤ sN (fun r => if r = e then 0 else 10) m ∧ (e < 0 ∨ (m : Int) ≤ e → 10 * (m : Int) ≤ sN (fun r => if r = e then 0 else 10) m)
  | 0 => ⟨by show _ ≤ (0 : Int); omega, fun _ => by show _ ≤ (0 : Int); omega⟩
  | m + 1 => by
    have i := sN_e e m
    have s : sN (fun r => if r = e then 0 else 10) (m + 1) = sN (fun r => if r = e then 0 else 10) m + (if (m : Int) = e then 0 else 10) := rfl
    rw [s]
    by_cases k : (m : Int) = e
    · rw [if_pos k]
      have := i.2 (by omega)
      omega
    · rw [if_neg k]
      refine ⟨by omega, fun h => ?_⟩
      have := i.2 (by omega)
      omega
theorem sN_ad {f h : Int → Int} : ∀ m : Nat, sN (fun r => f r + h r) m = sN f m + sN h m
  | 0 => rfl
  | m + 1 => by
    show sN (fun r => f r + h r) m + (f m + h m) = sN f m + f m + (sN h m + h m)
    rw [sN_ad m]
    omega
theorem sN_b {p : Int → Prop} : ∀ m : Nat, sN (fun r => bI (p r)) m = cN p m
  | 0 => rfl
  | m + 1 => by
    show sN (fun r => bI (p r)) m + bI (p m) = cN p m + bI (p m)
    rw [sN_b m]
/-- as many as their different images -/
theorem cn_img {p : Int → Prop} {f : Int → Int} {n : Int} : ∀ m : Nat, (∀ c : Int, 0 ≤ c → c < m → p c → 0 ≤ f c ∧ f c < n) → (∀ c e : Int, 0 ≤ c → c < m → 0 ≤ e → e < m → p c → p e → f c = f e → c = e) → cN p m = cn (fun k => ∃ c : Int, (0 ≤ c ∧ c < m) ∧ p c ∧ f c = k) n
  | 0, _, _ => by
    show (0 : Int) = _
    have z : cn (fun k => ∃ c : Int, (0 ≤ c ∧ c < ((0 : Nat) : Int)) ∧ p c ∧ f c = k) n = cn (fun _ => False) n := cn_cg (fun i _ _ => ⟨fun ⟨c, h, _⟩ => by omega, fun h => h.elim⟩)
    rw [z]
    have : ∀ k : Nat, cN (fun _ : Int => False) k = 0 := fun k => by
      induction k with
      | zero => rfl
      | succ k ih =>
        show cN (fun _ : Int => False) k + bI False = 0
        rw [ih, bI_f (fun z => z)]
        rfl
    exact (this _).symm
  | m + 1, h, k => by
    have ih := cn_img (p := p) (f := f) (n := n) m (fun c c0 c1 => h c c0 (by omega)) (fun c e c0 c1 e0 e1 => k c e c0 (by omega) e0 (by omega))
    show cN p m + bI (p m) = _
    by_cases q : p m
    · have hm := h m (by omega) (by omega) q
      rw [bI_t q, ih]
      refine (cn_add (p := fun x => ∃ c : Int, (0 ≤ c ∧ c < (m : Int)) ∧ p c ∧ f c = x) (q := fun x => ∃ c : Int, (0 ≤ c ∧ c < ((m + 1 : Nat) : Int)) ∧ p c ∧ f c = x) (j := f m) (n := n) hm ?_ ?_).symm
      · rintro ⟨c, c1, c2, c3⟩
        have := k c m c1.1 (by omega) (by omega) (by omega) c2 q c3
        omega
      · intro x x0 x1
        constructor
        · rintro ⟨c, c1, c2, c3⟩
          by_cases e : c = m
          · exact Or.inr (by rw [← c3, e])
          · exact Or.inl ⟨c, by omega, c2, c3⟩
        · rintro (⟨c, c1, c2, c3⟩ | z)
          · exact ⟨c, by omega, c2, c3⟩
          · exact ⟨m, by omega, q, z.symm⟩
    · rw [bI_f q, ih, Int.add_zero]
      exact cn_cg (fun x x0 x1 => ⟨fun ⟨c, c1, c2, c3⟩ => ⟨c, by omega, c2, c3⟩, fun ⟨c, c1, c2, c3⟩ => by
        by_cases e : c = m
        · rw [e] at c2
          exact absurd c2 q
        · exact ⟨c, by omega, c2, c3⟩⟩)
theorem cn_inj {p : Int → Prop} {f : Int → Int} {n m : Int} (hn : 0 ≤ n) (hm : 0 ≤ m) (h : ∀ c : Int, 0 ≤ c → c < m → p c → 0 ≤ f c ∧ f c < n) (k : ∀ c e : Int, 0 ≤ c → c < m → 0 ≤ e → e < m → p c → p e → f c = f e → c = e) : cn p m ≤ n := by
  have e := cn_img (p := p) (f := f) (n := n) m.toNat (fun c c0 c1 => h c c0 (by omega)) (fun c e c0 c1 e0 e1 => k c e c0 (by omega) e0 (by omega))
  have l := cn_le (p := fun k => ∃ c : Int, (0 ≤ c ∧ c < (m.toNat : Int)) ∧ p c ∧ f c = k) hn
  unfold cn at l ⊢
  unfold cn at e
  omega
section
variable {g : Int → Int}
theorem deg_le (hw : WF g) {r : Int} (hr : 0 ≤ r ∧ r < g 120) : deg g r ≤ g 120 := by
  have hR := wf_R hw
  have hW := wf_W hw
  unfold deg
  refine cn_inj (f := oth g r) hR.1 hW.1 (fun c c0 c1 _ => oth_rg hw ⟨c0, c1⟩) (fun c e c0 c1 e0 e1 k l q => ?_)
  have a := wf_ab hw (c := c) ⟨c0, c1⟩
  have b := wf_ab hw (c := e) ⟨e0, e1⟩
  unfold eds at k l
  refine hw.2.2.2.2 c e c0 c1 e0 e1 ?_ ?_
  · unfold oth at q
    split at q <;> split at q <;> omega
  · unfold oth at q
    split at q <;> split at q <;> omega
theorem two_le {a b n : Int} (hn : 0 ≤ n) : cn (fun r => a = r ∨ b = r) n ≤ 2 := by
  refine cn_inj (f := fun r => if a = r then 0 else 1) (by decide) hn (fun c _ _ _ => ?_) (fun c e _ _ _ _ k l q => ?_)
  · split <;> omega
  · split at q <;> split at q <;> omega
theorem deg_sum (hw : WF g) : ∀ m : Nat, sN (fun r => cn (fun c => eds g c r) m) (g 120).toNat ≤ 2 * m
  | 0 => by
    have z := sN_c (b := 0) (f := fun r => cn (fun c => eds g c r) ((0 : Nat) : Int)) (fun _ => rfl) (g 120).toNat
    rw [z]
    omega
  | m + 1 => by
    have ih := deg_sum hw m
    have e : sN (fun r => cn (fun c => eds g c r) ((m + 1 : Nat) : Int)) (g 120).toNat = sN (fun r => cn (fun c => eds g c r) m + bI (eds g m r)) (g 120).toNat := sN_cg _ (fun r _ _ => by
      show cn (fun c => eds g c r) ((m : Int) + 1) = _
      rw [cn_s (by omega)])
    have b : sN (fun r => bI (eds g m r)) (g 120).toNat ≤ 2 := by
      rw [sN_b]
      exact two_le (a := gA g m) (b := gB g m) (n := g 120) (wf_R hw).1
    rw [e, sN_ad]
    omega
def ZP (o : Int) (f : Int → Int) : Prop := f o = 0 ∧ ∀ r, f r = 0 → r = o
theorem ZP_u {o b v : Int} {f : Int → Int} (h : ZP o f) (hb : f b = -1) (hv : 1 ≤ v) : ZP o (up1 f b v) := by
  refine ⟨?_, fun r hr => ?_⟩
  · rw [up1_n (fun e => by rw [← e, h.1] at hb; omega)]
    exact h.1
  · by_cases e : r = b
    · rw [e, up1_s] at hr
      omega
    · rw [up1_n e] at hr
      exact h.2 r hr
theorem ZP_swp {o wo n : Int} (hn : 0 ≤ n) : ∀ (m : Nat) (f : Int → Int), ZP o f → ZP o (swpN g wo n f m)
  | 0, f, h => h
  | m + 1, f, h => by
    have i := ZP_swp (wo := wo) hn m f h
    show ZP o (stp g wo n m (swpN g wo n f m))
    unfold stp
    split
    · next k => exact ZP_u i k.2.2 (by omega)
    · split
      · next k => exact ZP_u i k.2.2 (by omega)
      · exact i
theorem ZP_lay {o wo : Int} : ∀ (m : Nat) (f : Int → Int), ZP o f → ZP o (layN g wo f m)
  | 0, f, h => h
  | m + 1, f, h => ZP_swp (by omega) _ _ (ZP_lay m f h)
theorem dpt_0 (hw : WF g) (h : 0 < g 120) : ZP (g 122) (dpt g) := by
  have hE := wf_E hw
  refine ZP_lay _ _ ⟨if_pos (by omega), fun r hr => ?_⟩
  have := dep0_c (g := g) (o := g 122) (by omega) r
  omega
/-- the sum is 0, or there is at least one for each room -/
theorem dif_sum (hw : WF g) (h : 0 < g 120) : (sm (dif g) (g 120) = 0 ∨ g 120 ≤ sm (dif g) (g 120)) ∧ sm (dif g) (g 120) ≤ 6000 := by
  have hR := wf_R hw
  have hW := wf_W hw
  have hU := wf_U hw
  have hE := wf_E hw
  have zp := dpt_0 hw h
  obtain ⟨N, hN⟩ : ∃ N : Nat, (g 120).toNat = N ∧ g 120 = N := ⟨(g 120).toNat, rfl, by omega⟩
  have up : sN (dif g) (g 120).toNat ≤ sN (fun _ => 500) (g 120).toNat := sN_mo _ (fun i i0 i1 => (dif_rg hw (r := i) (by omega)).2)
  rw [sN_c (b := 500) (fun _ => rfl)] at up
  unfold sm
  refine ⟨?_, by omega⟩
  have one : (∀ r, 0 ≤ r → r < g 120 → 1 ≤ dif g r) → g 120 ≤ sN (dif g) (g 120).toNat := by
    intro k
    have := sN_mo (f := fun _ => 1) (h := dif g) (g 120).toNat (fun i i0 i1 => k i i0 (by omega))
    rw [sN_1] at this
    omega
  by_cases u0 : g 123 = 0
  · -- 10 for each step
    by_cases n1 : g 120 = 1
    · refine Or.inl ?_
      have e0 : g 122 = 0 := by omega
      rw [n1]
      show 0 + dif g ((0 : Nat) : Int) = 0
      have d0 : dpt g 0 = 0 := by
        have := zp.1
        rw [e0] at this
        exact this
      unfold dif
      rw [show ((0 : Nat) : Int) = 0 from rfl, d0, if_neg (by decide), if_pos u0]
      rfl
    · refine Or.inr ?_
      have k := sN_mo (f := fun r => if r = g 122 then 0 else 10) (h := dif g) (g 120).toNat (fun i i0 i1 => by
        have d := dpt_rg hw i
        have z := zp.2 i
        unfold dif
        rw [if_pos u0]
        split
        · split <;> omega
        · split <;> omega)
      have e := (sN_e (g 122) (g 120).toNat).1
      omega
  · refine Or.inr ?_
    by_cases u1 : g 123 = 1
    · refine one (fun r r0 r1 => ?_)
      have d := dpt_rg hw r
      have q := wf_r hw ⟨r0, r1⟩
      unfold wfR at q
      have a : 4 ≤ gW g r * gH g r := by
        have := Int.mul_le_mul q.1.1 q.2.1.1 (by decide) (by omega)
        omega
      have b : 0 ≤ dpt g r * dpt g r := by
        by_cases z : 0 ≤ dpt g r
        · exact Int.mul_nonneg z z
        · have : dpt g r = -1 := by omega
          rw [this]
          decide
      unfold dif
      rw [if_neg u0, if_pos u1]
      split <;> omega
    · by_cases n5 : g 120 ≤ 4
      · refine one (fun r r0 r1 => ?_)
        have d := dpt_rg hw r
        have q := deg_le hw ⟨r0, r1⟩
        unfold dif
        rw [if_neg u0, if_neg u1]
        split <;> omega
      · have dg := deg_sum hw (g 121).toNat
        rw [Int.toNat_of_nonneg hW.1] at dg
        have k := sN_mo (f := fun r => 100 + -10 * deg g r) (h := dif g) (g 120).toNat (fun i i0 i1 => by
          have d := dpt_rg hw i
          have q : 0 ≤ deg g i := (cn_le (p := fun c => eds g c i) hW.1).1
          unfold dif
          rw [if_neg u0, if_neg u1]
          split <;> omega)
        rw [sN_ad, sN_c (b := 100) (fun _ => rfl)] at k
        have tn : ∀ m : Nat, sN (fun r => -10 * deg g r) m = -10 * sN (deg g) m := fun m => by
          induction m with
          | zero => rfl
          | succ m ih =>
            show sN (fun r => -10 * deg g r) m + -10 * deg g m = -10 * (sN (deg g) m + deg g m)
            rw [ih]
            omega
        rw [tn] at k
        have dg : sN (deg g) (g 120).toNat ≤ 2 * g 121 := dg
        omega
end
