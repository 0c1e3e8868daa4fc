/-! depths: layers of rooms; the class's measure, the reference's tellDepths -/
def up1 (f : Int → Int) (j v : Int) : Int → Int := fun i => if i = j then v else f i
theorem up1_s (f : Int → Int) (j v : Int) : up1 f j v j = v := if_pos rfl
theorem up1_n {f : Int → Int} {i j v : Int} (h : i ≠ j) : up1 f j v i = f i := if_neg h
theorem zwr_n {M : ZM} {a b : Nat} {i v : Int} (h : b ≠ a) : zwr M a i v b = M b := funext fun j => if_neg (fun q => h q.1)
theorem zwr_u {M : ZM} {a : Nat} {i v : Int} : zwr M a i v a = up1 (M a) i v := funext fun j => by
  unfold zwr up1
  by_cases h : j = i
  · rw [if_pos ⟨rfl, h⟩, if_pos h]
  · rw [if_neg (fun q => h q.2), if_neg h]
def stp (g : Int → Int) (wo n c : Int) (f : Int → Int) : Int → Int := if c ≠ wo ∧ f (gA g c) = n ∧ f (gB g c) = -1 then up1 f (gB g c) (n + 1) else if c ≠ wo ∧ f (gB g c) = n ∧ f (gA g c) = -1 then up1 f (gA g c) (n + 1) else f
def swpN (g : Int → Int) (wo n : Int) (f : Int → Int) (c : Nat) : Int → Int := match c with
  | 0 => f
  | c + 1 => stp g wo n c (swpN g wo n f c)
def swp (g : Int → Int) (wo n : Int) (f : Int → Int) (c : Int) : Int → Int := swpN g wo n f c.toNat
def layN (g : Int → Int) (wo : Int) (f : Int → Int) (n : Nat) : Int → Int := match n with
  | 0 => f
  | n + 1 => swp g wo n (layN g wo f n) (g 121)
def lay (g : Int → Int) (wo : Int) (f : Int → Int) (n : Int) : Int → Int := layN g wo f n.toNat
def dep0 (g : Int → Int) (o : Int) : Int → Int := fun r => if r = o ∧ r < g 120 then 0 else -1
def dep (g : Int → Int) (wo o : Int) : Int → Int := lay g wo (dep0 g o) 12
section
variable {g f : Int → Int} {wo n c o : Int}
theorem swp_0 : swp g wo n f 0 = f := rfl
theorem swp_s (h : 0 ≤ c) : swp g wo n f (c + 1) = stp g wo n c (swp g wo n f c) := by
  unfold swp
  rw [toN_s h]
  show stp g wo n (c.toNat : Int) _ = _
  rw [Int.toNat_of_nonneg h]
theorem lay_0 : lay g wo f 0 = f := rfl
theorem lay_s (h : 0 ≤ n) : lay g wo f (n + 1) = swp g wo n (lay g wo f n) (g 121) := by
  unfold lay
  rw [toN_s h]
  show swp g wo (n.toNat : Int) _ _ = _
  rw [Int.toNat_of_nonneg h]
def no (_ : Int) : Prop := False
def yes (_ : Int) : Prop := True
/-- the rooms that can be reached from o without the corridor wo -/
def rea (g : Int → Int) (wo o : Int) : Int → Prop := clo g wo no yes (fun r => r = o)
theorem opn_y {S : Int → Prop} : opn g S no yes c := Or.inr (Or.inr trivial)
theorem rea_ab (h0 : 0 ≤ c ∧ c < g 121) (h : c ≠ wo) : rea g wo o (gA g c) ↔ rea g wo o (gB g c) := clo_cls c h0.1 h0.2 h opn_y
def PL (g : Int → Int) (wo o n c : Int) (f : Int → Int) : Prop := (∀ r, -1 ≤ f r ∧ f r ≤ n + 1) ∧ (∀ r, 0 ≤ f r → (0 ≤ r ∧ r < g 120) ∧ rea g wo o r) ∧ (∀ r, 1 ≤ f r → ∃ s, f s = f r - 1) ∧ (∀ e, 0 ≤ e → e < g 121 → e ≠ wo → (0 ≤ f (gA g e) ∧ f (gA g e) < n → 0 ≤ f (gB g e)) ∧ (0 ≤ f (gB g e) ∧ f (gB g e) < n → 0 ≤ f (gA g e))) ∧ (∀ e, 0 ≤ e → e < c → e ≠ wo → (f (gA g e) = n → 0 ≤ f (gB g e)) ∧ (f (gB g e) = n → 0 ≤ f (gA g e))) ∧ (0 ≤ f o)
theorem PL_u (hw : WF g) (h : PL g wo o n c f) (hn : 0 ≤ n) (hc : 0 ≤ c ∧ c < g 121) {a b : Int} (h1 : f a = n) (h2 : f b = -1) (h3 : rea g wo o b) (hb : 0 ≤ b ∧ b < g 120) (h4 : (gA g c = a ∧ gB g c = b) ∨ (gA g c = b ∧ gB g c = a)) : PL g wo o n (c + 1) (up1 f b (n + 1)) := by
  obtain ⟨p1, p2, p3, p4, p5, p6⟩ := h
  have mo : ∀ r, 0 ≤ f r → up1 f b (n + 1) r = f r := fun r q => up1_n (fun e => by rw [e] at q; omega)
  have back : ∀ r, up1 f b (n + 1) r ≤ n → up1 f b (n + 1) r = f r := fun r q => by
    refine up1_n (fun e => ?_)
    rw [e, up1_s] at q
    omega
  have pos : ∀ r, 0 ≤ f r → 0 ≤ up1 f b (n + 1) r := fun r q => by rw [mo r q]; exact q
  refine ⟨?_, ?_, ?_, ?_, ?_, pos o p6⟩
  · intro r
    by_cases e : r = b
    · rw [e, up1_s]; omega
    · rw [up1_n e]; exact p1 r
  · intro r
    by_cases e : r = b
    · rw [e]; exact fun _ => ⟨hb, h3⟩
    · rw [up1_n e]; exact p2 r
  · intro r
    by_cases e : r = b
    · rw [e, up1_s]
      exact fun _ => ⟨a, by rw [mo a (by omega)]; omega⟩
    · rw [up1_n e]
      intro q
      obtain ⟨s, k⟩ := p3 r q
      exact ⟨s, by rw [mo s (by omega)]; exact k⟩
  · intro e e0 e1 e2
    have := p4 e e0 e1 e2
    constructor
    · rintro ⟨k1, k2⟩
      rw [back _ (by omega)] at k1 k2
      exact pos _ (this.1 ⟨k1, k2⟩)
    · rintro ⟨k1, k2⟩
      rw [back _ (by omega)] at k1 k2
      exact pos _ (this.2 ⟨k1, k2⟩)
  · intro e e0 e1 e2
    have pb : 0 ≤ up1 f b (n + 1) b := by rw [up1_s]; omega
    have pa : 0 ≤ up1 f b (n + 1) a := pos a (by omega)
    by_cases ec : e = c
    · subst ec
      rcases h4 with ⟨k1, k2⟩ | ⟨k1, k2⟩ <;> rw [k1, k2]
      · exact ⟨fun _ => pb, fun _ => pa⟩
      · exact ⟨fun _ => pa, fun _ => pb⟩
    · have := p5 e e0 (by omega) e2
      constructor
      · intro k
        rw [back _ (by omega)] at k
        exact pos _ (this.1 k)
      · intro k
        rw [back _ (by omega)] at k
        exact pos _ (this.2 k)
theorem PL_c (hw : WF g) (h : PL g wo o n c f) (hn : 0 ≤ n) (hc : 0 ≤ c ∧ c < g 121) : PL g wo o n (c + 1) (stp g wo n c f) := by
  have hab := wf_ab hw hc
  unfold stp
  by_cases h1 : c ≠ wo ∧ f (gA g c) = n ∧ f (gB g c) = -1
  · rw [if_pos h1]
    exact PL_u hw h hn hc h1.2.1 h1.2.2 ((rea_ab hc h1.1).1 (h.2.1 _ (by omega)).2) (by omega) (Or.inl ⟨rfl, rfl⟩)
  · rw [if_neg h1]
    by_cases h2 : c ≠ wo ∧ f (gB g c) = n ∧ f (gA g c) = -1
    · rw [if_pos h2]
      exact PL_u hw h hn hc h2.2.1 h2.2.2 ((rea_ab hc h2.1).2 (h.2.1 _ (by omega)).2) (by omega) (Or.inr ⟨rfl, rfl⟩)
    · rw [if_neg h2]
      obtain ⟨p1, p2, p3, p4, p5, p6⟩ := h
      refine ⟨p1, p2, p3, p4, fun e e0 e1 e2 => ?_, p6⟩
      by_cases ec : e = c
      · subst ec
        have k1 := p1 (gA g e)
        have k2 := p1 (gB g e)
        constructor
        · intro k
          refine Classical.byContradiction fun q => h1 ⟨e2, k, by omega⟩
        · intro k
          refine Classical.byContradiction fun q => h2 ⟨e2, k, by omega⟩
      · exact p5 e e0 (by omega) e2
theorem PL_swp (hw : WF g) (h : PL g wo o n 0 f) (hn : 0 ≤ n) : ∀ m : Nat, (m : Int) ≤ g 121 → PL g wo o n m (swp g wo n f m)
  | 0, _ => h
  | m + 1, hm => by
    have := PL_c hw (PL_swp hw h hn m (by omega)) hn ⟨by omega, by omega⟩
    rw [← swp_s (by omega)] at this
    exact this
theorem PL_rnd (hw : WF g) (h : PL g wo o n 0 f) (hn : 0 ≤ n) : PL g wo o (n + 1) 0 (swp g wo n f (g 121)) := by
  have hW := wf_W hw
  have k := PL_swp hw h hn (g 121).toNat (by omega)
  rw [Int.toNat_of_nonneg hW.1] at k
  obtain ⟨p1, p2, p3, p4, p5, p6⟩ := k
  refine ⟨fun r => ⟨(p1 r).1, by have := p1 r; omega⟩, p2, p3, fun e e0 e1 e2 => ?_, fun e e0 e1 => absurd e1 (by omega), p6⟩
  have k1 := p4 e e0 e1 e2
  have k2 := p5 e e0 e1 e2
  constructor
  · rintro ⟨a, b⟩
    by_cases q : swp g wo n f (g 121) (gA g e) = n
    · exact k2.1 q
    · exact k1.1 ⟨a, by omega⟩
  · rintro ⟨a, b⟩
    by_cases q : swp g wo n f (g 121) (gB g e) = n
    · exact k2.2 q
    · exact k1.2 ⟨a, by omega⟩
theorem dep0_c (h : o < g 120) (r : Int) : dep0 g o r = 0 ∧ r = o ∨ dep0 g o r = -1 ∧ r ≠ o := by
  unfold dep0
  by_cases e : r = o
  · exact Or.inl ⟨if_pos ⟨e, by omega⟩, e⟩
  · exact Or.inr ⟨if_neg (fun q => e q.1), e⟩
theorem PL_0 (h : 0 ≤ o ∧ o < g 120) : PL g wo o 0 0 (dep0 g o) := by
  refine ⟨fun r => ?_, fun r => ?_, fun r => ?_, fun e _ _ _ => ⟨fun k => by omega, fun k => by omega⟩, fun e e0 e1 => absurd e1 (by omega), ?_⟩
  · have := dep0_c h.2 r
    omega
  · have := dep0_c h.2 r
    intro q
    rcases this with ⟨_, k⟩ | ⟨_, k⟩
    · exact ⟨by omega, clo_F k⟩
    · omega
  · have := dep0_c h.2 r
    intro q
    omega
  · have := dep0_c h.2 o
    omega
theorem PL_lay (hw : WF g) (h : 0 ≤ o ∧ o < g 120) : ∀ m : Nat, PL g wo o m 0 (lay g wo (dep0 g o) m)
  | 0 => PL_0 h
  | m + 1 => by
    have := PL_rnd hw (PL_lay hw h m) (by omega)
    rw [← lay_s (by omega)] at this
    exact this
/-- as many rooms as layers -/
theorem PL_pig (h : PL g wo o n c f) : ∀ m : Nat, (∃ r, f r = m) → (m : Int) + 1 ≤ cn (fun r => 0 ≤ f r ∧ f r ≤ m) (g 120)
  | 0, ⟨r, hr⟩ => by
    have := (h.2.1 r (by omega)).1
    have := cn_pos (p := fun r => 0 ≤ f r ∧ f r ≤ ((0 : Nat) : Int)) this (by omega)
    omega
  | m + 1, ⟨r, hr⟩ => by
    have k := (h.2.1 r (by omega)).1
    obtain ⟨s, hs⟩ := h.2.2.1 r (by omega)
    have i := PL_pig h m ⟨s, by omega⟩
    have := cn_lt (p := fun r => 0 ≤ f r ∧ f r ≤ m) (q := fun r => 0 ≤ f r ∧ f r ≤ ((m + 1 : Nat) : Int)) k (by omega) (by omega) (fun j _ _ => by omega)
    omega
theorem PL_lt (hw : WF g) (h : PL g wo o n c f) {r : Int} : f r < g 120 := by
  have hR := wf_R hw
  by_cases k : 0 ≤ f r
  · have h1 := PL_pig h (f r).toNat ⟨r, by omega⟩
    have h2 := cn_le (p := fun s => 0 ≤ f s ∧ f s ≤ ((f r).toNat : Int)) hR.1
    omega
  · omega
theorem swp_id (h : ∀ r, f r ≠ n) : ∀ m : Nat, swp g wo n f m = f
  | 0 => rfl
  | m + 1 => by
    rw [show ((m + 1 : Nat) : Int) = (m : Int) + 1 by omega, swp_s (by omega), swp_id h m]
    unfold stp
    rw [if_neg (fun q => h _ q.2.1), if_neg (fun q => h _ q.2.1)]
theorem dep0_e (h : g 120 ≤ o) : dep0 g o = fun _ => -1 := funext fun r => if_neg (by omega)
theorem lay_e (hw : WF g) (hn : ∀ r, f r = -1) : ∀ m : Nat, lay g wo f m = f
  | 0 => rfl
  | m + 1 => by
    have hW := wf_W hw
    rw [show ((m + 1 : Nat) : Int) = (m : Int) + 1 by omega, lay_s (by omega), lay_e hw hn m, ← Int.toNat_of_nonneg hW.1]
    exact swp_id (fun r => by rw [hn]; omega) _
/-- as many rounds as rooms are enough -/
theorem lay_st (hw : WF g) (ho : 0 ≤ o) : ∀ m : Nat, lay g wo (dep0 g o) (g 120 + m) = lay g wo (dep0 g o) (g 120)
  | 0 => by rw [show g 120 + ((0 : Nat) : Int) = g 120 by omega]
  | m + 1 => by
    have hR := wf_R hw
    have hW := wf_W hw
    by_cases h : o < g 120
    · have k := PL_lay (wo := wo) hw ⟨ho, h⟩ (g 120).toNat
      rw [Int.toNat_of_nonneg hR.1] at k
      rw [show g 120 + ((m + 1 : Nat) : Int) = g 120 + m + 1 by omega, lay_s (by omega), lay_st hw ho m, ← Int.toNat_of_nonneg hW.1]
      exact swp_id (fun r => by have := PL_lt (r := r) hw k; omega) _
    · have e : ∀ r, dep0 g o r = -1 := fun r => by rw [dep0_e (by omega)]
      have k1 := lay_e (wo := wo) hw e (g 120 + ((m + 1 : Nat) : Int)).toNat
      have k2 := lay_e (wo := wo) hw e (g 120).toNat
      rw [Int.toNat_of_nonneg (by omega)] at k1 k2
      rw [k1, k2]
theorem dep_R (hw : WF g) (ho : 0 ≤ o) : lay g wo (dep0 g o) (g 120) = dep g wo o := by
  have hR := wf_R hw
  have := lay_st (wo := wo) hw ho (12 - g 120).toNat
  rw [show g 120 + ((12 - g 120).toNat : Int) = 12 by omega] at this
  exact this.symm
theorem PL_dep (hw : WF g) (h : 0 ≤ o ∧ o < g 120) : PL g wo o 12 0 (dep g wo o) := PL_lay hw h 12
theorem dep_no (hw : WF g) (h : g 120 ≤ o) (r : Int) : dep g wo o r = -1 := by
  have := lay_e (wo := wo) hw (f := dep0 g o) (fun r => by rw [dep0_e h]) 12
  show lay g wo (dep0 g o) ((12 : Nat) : Int) r = -1
  rw [this, dep0_e h]
theorem dep_rg (hw : WF g) (h : 0 ≤ o) (r : Int) : -1 ≤ dep g wo o r ∧ dep g wo o r < 12 := by
  have hR := wf_R hw
  by_cases k : o < g 120
  · have h1 := PL_dep (wo := wo) hw ⟨h, k⟩
    have h2 := PL_lt (r := r) hw h1
    have h3 := h1.1 r
    omega
  · rw [dep_no hw (by omega)]
    omega
theorem dep_rea (hw : WF g) (h : 0 ≤ o ∧ o < g 120) (r : Int) : 0 ≤ dep g wo o r ↔ rea g wo o r := by
  have hR := wf_R hw
  have k := PL_dep (wo := wo) hw h
  refine ⟨fun q => (k.2.1 r q).2, fun q => clo_min (S := fun r => 0 ≤ dep g wo o r) ?_ ?_ q⟩
  · rintro s rfl
    exact k.2.2.2.2.2
  · intro c c0 c1 c2 _
    have k1 := k.2.2.2.1 c c0 c1 c2
    have k2 := PL_lt (r := gA g c) hw k
    have k3 := PL_lt (r := gB g c) hw k
    exact ⟨fun q => k1.1 ⟨q, by omega⟩, fun q => k1.2 ⟨q, by omega⟩⟩
end
