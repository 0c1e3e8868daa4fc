/-! walks: the class's queue of lines -/
def wq (t : Int → Int → Int) (s0 nr : Int) (S O L T F : Int → Int) (n h q : Int) : Prop := (1 ≤ n ∧ 0 ≤ h) ∧ (S 0 = s0 ∧ O 0 = -1 ∧ L 0 = 0) ∧ (wxO t S O L n ∧ ∀ i, 1 ≤ i → i < n → O i < h ∨ O i = h ∧ S i / 64 < q) ∧ wxL S O n ∧ (∀ i r, 0 ≤ i → i < n → 0 ≤ r → r < nr → (i < h ∨ i = h ∧ r < q) → t (S i) r ≠ -1 → ∃ j, (0 ≤ j ∧ j < n) ∧ S j = t (S i) r ∧ (O j < i ∨ O j = i ∧ S j / 64 ≤ r)) ∧ wxF nr S F n ∧ (∀ i, 0 ≤ i → i < n → 0 ≤ S i ∧ S i < 64 * nr) ∧ (∀ s, 0 ≤ s → s < 768 → (T s ≠ 0 ↔ ∃ i, (0 ≤ i ∧ i < n) ∧ S i = s)) ∧ cn (fun s => T s ≠ 0) 768 = n
section
variable {t : Int → Int → Int} {s0 nr n h q s : Int} {S O L T F : Int → Int}
theorem wq_n (w : wq t s0 nr S O L T F n h q) : n ≤ 768 := by
  have c := cn_le (p := fun s => T s ≠ 0) (n := 768) (by decide)
  obtain ⟨-, -, -, -, -, -, -, -, e⟩ := w
  omega
theorem wxF_add {F' : Int → Int} (w : wxF nr S F n) (hn : 1 ≤ n) (hs : s / 64 = q) (hq : 0 ≤ q ∧ q < nr) (hF : ∀ r, F' r = if r = q ∧ F q = -1 then n else F r) : wxF nr (up1 S n s) F' (n + 1) := by
  intro r r0 r1
  have old : ∀ i, i < n → up1 S n s i = S i := fun i hi => up1_n (by omega)
  have f := hF r
  by_cases e : r = q
  · by_cases k : F q = -1
    · rw [if_pos ⟨e, k⟩] at f
      refine Or.inr ⟨by omega, by rw [f, up1_s, hs, e], fun i i0 i1 => ?_⟩
      rw [f] at i1
      rw [old i i1, e]
      rcases w q hq.1 hq.2 with z | z
      · exact z.2 i i0 i1
      · omega
    · rw [if_neg (fun z => k z.2)] at f
      rcases w r r0 r1 with z | ⟨z1, z2, z3⟩
      · rw [e] at z
        exact absurd z.1 k
      · refine Or.inr ⟨by omega, by rw [f, old _ z1.2]; exact z2, fun i i0 i1 => ?_⟩
        rw [f] at i1
        rw [old i (by omega)]
        exact z3 i i0 i1
  · rw [if_neg (fun z => e z.1)] at f
    rcases w r r0 r1 with z | ⟨z1, z2, z3⟩
    · refine Or.inl ⟨f.trans z.1, fun i i0 i1 => ?_⟩
      by_cases m : i = n
      · rw [m, up1_s, hs]
        exact fun z => e z.symm
      · rw [up1_n m]
        exact z.2 i i0 (by omega)
    · refine Or.inr ⟨by omega, by rw [f, old _ z1.2]; exact z2, fun i i0 i1 => ?_⟩
      rw [f] at i1
      rw [old i (by omega)]
      exact z3 i i0 i1
theorem wq_add {F' : Int → Int} (w : wq t s0 nr S O L T F n h q) (hT : wT t nr) (hr : nr ≤ 12) (hh : h < n) (hq : 0 ≤ q ∧ q < nr) (hs : t (S h) q = s) (h1 : s ≠ -1) (h2 : T s = 0) (hF : ∀ r, F' r = if r = q ∧ F q = -1 then n else F r) : wq t s0 nr (up1 S n s) (up1 O n h) (up1 L n (L h + 1)) (up1 T s 1) F' (n + 1) h (q + 1) ∧ n < 768 := by
  obtain ⟨⟨w1, w2⟩, ⟨a1, a2, a3⟩, ⟨w3, w4⟩, w5, w6, w7, w8, w9, w10⟩ := w
  have sh := w8 h w2 hh
  have sr := (hT (S h) q sh.1 sh.2 hq.1 hq.2).resolve_left (by rw [hs]; exact h1)
  rw [hs] at sr
  have oS : ∀ i, i < n → up1 S n s i = S i := fun i hi => up1_n (by omega)
  have oO : ∀ i, i < n → up1 O n h i = O i := fun i hi => up1_n (by omega)
  have oL : ∀ i, i < n → up1 L n (L h + 1) i = L i := fun i hi => up1_n (by omega)
  have cadd := cn_add (p := fun s => T s ≠ 0) (q := fun u => up1 T s 1 u ≠ 0) (j := s) (n := 768) (by omega) (fun z => z h2) (fun k k0 k1 => by
    by_cases e : k = s
    · rw [e, up1_s]
      exact ⟨fun _ => Or.inr rfl, fun _ => by decide⟩
    · rw [up1_n e]
      exact ⟨Or.inl, fun z => z.resolve_right e⟩)
  have cle := cn_le (p := fun u => up1 T s 1 u ≠ 0) (n := 768) (by decide)
  refine ⟨⟨by omega, ⟨by rw [oS 0 (by omega)]; exact a1, by rw [oO 0 (by omega)]; exact a2, by rw [oL 0 (by omega)]; exact a3⟩, ⟨fun i i0 i1 => ?_, fun i i0 i1 => ?_⟩, fun i j i0 ij j1 => ?_, fun i r i0 i1 r0 r1 ir k => ?_, wxF_add w7 w1 sr.2 hq hF, fun i i0 i1 => ?_, fun u u0 u1 => ?_, by omega⟩, by omega⟩
  · by_cases e : i = n
    · rw [e, up1_s, up1_s, up1_s, oS h hh, oL h hh, sr.2]
      exact ⟨by omega, hs, rfl⟩
    · obtain ⟨b1, b2, b3⟩ := w3 i i0 (by omega)
      rw [oO i (by omega), oS i (by omega), oS _ (by omega), oL i (by omega), oL _ (by omega)]
      exact ⟨b1, b2, b3⟩
  · by_cases e : i = n
    · rw [e, up1_s, up1_s, sr.2]
      omega
    · rw [oO i (by omega), oS i (by omega)]
      have := w4 i i0 (by omega)
      omega
  · by_cases e : j = n
    · rw [e, up1_s, up1_s, sr.2, oO i (by omega), oS i (by omega)]
      exact w4 i i0 (by omega)
    · rw [oO i (by omega), oS i (by omega), oO j (by omega), oS j (by omega)]
      exact w5 i j i0 ij (by omega)
  · rw [oS i (by omega)] at k ⊢
    by_cases e : i = h ∧ r = q
    · refine ⟨n, by omega, by rw [up1_s, e.1, e.2, hs], Or.inr ⟨by rw [up1_s, e.1], by rw [up1_s, sr.2]; omega⟩⟩
    · obtain ⟨j, j1, j2, j3⟩ := w6 i r i0 (by omega) r0 r1 (by omega) k
      exact ⟨j, by omega, by rw [oS j j1.2]; exact j2, by rw [oO j j1.2, oS j j1.2]; exact j3⟩
  · by_cases e : i = n
    · rw [e, up1_s]
      exact sr.1
    · rw [oS i (by omega)]
      exact w8 i i0 (by omega)
  · by_cases e : u = s
    · rw [e, up1_s]
      exact ⟨fun _ => ⟨n, by omega, up1_s _ _ _⟩, fun _ => by decide⟩
    · rw [up1_n e, w9 u u0 u1]
      constructor
      · rintro ⟨i, i1, i2⟩
        exact ⟨i, by omega, by rw [oS i i1.2]; exact i2⟩
      · rintro ⟨i, i1, i2⟩
        by_cases m : i = n
        · rw [m, up1_s] at i2
          exact absurd i2.symm e
        · rw [up1_n m] at i2
          exact ⟨i, by omega, i2⟩
theorem wq_skip (w : wq t s0 nr S O L T F n h q) (hT : wT t nr) (hr : nr ≤ 12) (hh : h < n) (hq : 0 ≤ q ∧ q < nr) (k : t (S h) q = -1 ∨ T (t (S h) q) ≠ 0) : wq t s0 nr S O L T F n h (q + 1) := by
  obtain ⟨⟨w1, w2⟩, ⟨a1, a2, a3⟩, ⟨w3, w4⟩, w5, w6, w7, w8, w9, w10⟩ := w
  refine ⟨⟨w1, w2⟩, ⟨a1, a2, a3⟩, ⟨w3, fun i i0 i1 => by have := w4 i i0 i1; omega⟩, w5, fun i r i0 i1 r0 r1 ir z => ?_, w7, w8, w9, w10⟩
  by_cases e : i = h ∧ r = q
  · rw [e.1, e.2] at z ⊢
    have sh := w8 h w2 hh
    have sr := (hT (S h) q sh.1 sh.2 hq.1 hq.2).resolve_left z
    obtain ⟨j, j1, j2⟩ := (w9 _ sr.1.1 (by omega)).1 (k.resolve_left z)
    refine ⟨j, j1, j2, ?_⟩
    by_cases m : j = 0
    · rw [m, a2]
      omega
    · have := w4 j (by omega) j1.2
      omega
  · exact w6 i r i0 i1 r0 r1 (by omega) z
theorem wq_line (w : wq t s0 nr S O L T F n h nr) : wq t s0 nr S O L T F n (h + 1) 0 := by
  obtain ⟨⟨w1, w2⟩, a, ⟨w3, w4⟩, w5, w6, w7, w8, w9, w10⟩ := w
  refine ⟨⟨w1, by omega⟩, a, ⟨w3, fun i i0 i1 => ?_⟩, w5, fun i r i0 i1 r0 r1 ir z => w6 i r i0 i1 r0 r1 (by omega) z, w7, w8, w9, w10⟩
  have := w4 i i0 i1
  have := w8 i (by omega) i1
  omega
theorem wq_end (w : wq t s0 nr S O L T F n h q) (hh : n ≤ h) : wx t s0 nr S O L F n := by
  obtain ⟨⟨w1, w2⟩, a, ⟨w3, w4⟩, w5, w6, w7, w8, w9, w10⟩ := w
  exact ⟨w1, a, w3, w5, fun i r i0 i1 r0 r1 z => w6 i r i0 i1 r0 r1 (by omega) z, w7, w8⟩
end
section
variable {d : Nat} {M : ZM} {g : Int → Int}
def xS (M : ZM) (i : Int) : Int := 64 * M 126 i + M 127 i
/-- a new line -/
def xal (M : ZM) (st q k o n l : Int) : ZM := zwr (zwr (zwr (zwr (zwr M 130 st 1) 126 n q) 127 n k) 128 n o) 129 n l
def xan (M : ZM) (q n : Int) : ZM := zwr (if M 131 q = -1 then zwr M 131 q n else M) 125 6 (n + 1)
theorem x_addLine {q o K : Int} (hw : WF g) (hd : dgr M 1 g) (hq : 0 ≤ q ∧ q < g 120) (ho : o = -1 ∧ K = 0 ∨ (0 ≤ o ∧ o < 768) ∧ K = M 127 o) (hK : 0 ≤ K ∧ K < 64) (hn : 0 ≤ M 125 6 ∧ M 125 6 ≤ 768) (hl : o ≠ -1 → 0 ≤ M 129 o ∧ M 129 o ≤ 1000) : E (d + 2) 100 [zR 125, zR 1, zI q, zI o] M = Rt none (if M 130 (64 * q + zor K (kb g q)) ≠ 0 then M else if M 125 6 < 768 then xan (xal M (64 * q + zor K (kb g q)) q (zor K (kb g q)) o (M 125 6) (if o = -1 then 0 else M 129 o + 1)) q (M 125 6) else M) := by
  have hR := wf_R hw
  have k := kb6 (wf_k hw hq)
  obtain ⟨z, zc⟩ := zor6 hK k
  have st : E (d + 2) 100 [zR 125, zR 1, zI q, zI o] M = Q (d + 1) 100 20 [zR 125, zR 1, zI q, zI o, zU, zU] [zI K, zI (kb g q)] M := by
    rw [en_100, q_100_0, x_keyBit hw hd hq, Cb_I, q_100_5]
    rcases ho with ⟨e, e2⟩ | ⟨e, e2⟩
    · rw [if_neg (by omega), e2]
    · rw [if_pos (by omega), if_pos e, e2]
  have zs : zw (zw (q * 64) + zor K (kb g q)) = 64 * q + zor K (kb g q) := by unfold zw; omega
  rw [st, q_100_20, ← zc, zs, if_pos (by omega)]
  generalize zor K (kb g q) = x at *
  by_cases a : M 130 (64 * q + x) ≠ 0
  · rw [if_pos a, if_pos a]
  · rw [if_neg a, if_neg a]
    by_cases b : M 125 6 < 768
    · rw [if_pos b, if_pos b]
      simp only [zwr_ne (show (125 : Nat) ≠ 130 by decide), zwr_ne (show (125 : Nat) ≠ 126 by decide), zwr_ne (show (125 : Nat) ≠ 127 by decide), zwr_ne (show (125 : Nat) ≠ 128 by decide), zwr_ne (show (129 : Nat) ≠ 130 by decide), zwr_ne (show (129 : Nat) ≠ 126 by decide), zwr_ne (show (129 : Nat) ≠ 127 by decide), zwr_ne (show (129 : Nat) ≠ 128 by decide)]
      have hn' : 0 ≤ M 125 6 ∧ M 125 6 < 768 := ⟨hn.1, b⟩
      rw [if_pos (by omega), if_pos hn', if_pos hn', if_pos hn']
      have fin : ∀ l : Int, Q (d + 1) 100 117 [zR 125, zR 1, zI q, zI o, zI x, zI (64 * q + x)] [zI l, zI (M 125 6), zR 129] (zwr (zwr (zwr (zwr M 130 (64 * q + x) 1) 126 (M 125 6) q) 127 (M 125 6) x) 128 (M 125 6) o) = Rt none (xan (xal M (64 * q + x) q x o (M 125 6) l) q (M 125 6)) := by
        intro l
        rw [q_100_117, if_pos hn', if_pos (by omega)]
        have e6 : (xal M (64 * q + x) q x o (M 125 6) l) 125 6 = M 125 6 := by
          unfold xal
          rw [zwr_ne (by decide), zwr_ne (by decide), zwr_ne (by decide), zwr_ne (by decide), zwr_ne (by decide)]
        show (if xal M (64 * q + x) q x o (M 125 6) l 131 q ≠ -1 then Rt none (zwr (xal M (64 * q + x) q x o (M 125 6) l) 125 6 (zw (xal M (64 * q + x) q x o (M 125 6) l 125 6 + 1))) else (if 0 ≤ q ∧ q < 12 then Rt none (zwr (zwr (xal M (64 * q + x) q x o (M 125 6) l) 131 q (xal M (64 * q + x) q x o (M 125 6) l 125 6)) 125 6 (zw (zwr (xal M (64 * q + x) q x o (M 125 6) l) 131 q (xal M (64 * q + x) q x o (M 125 6) l 125 6) 125 6 + 1))) else none)) = _
        rw [zwr_ne (show (125 : Nat) ≠ 131 by decide), e6, zw_id (by omega)]
        unfold xan
        by_cases c : xal M (64 * q + x) q x o (M 125 6) l 131 q = -1
        · rw [if_neg (fun w => w c), if_pos c, if_pos (by omega)]
        · rw [if_pos c, if_neg c]
      rcases ho with ⟨e, e2⟩ | ⟨e, e2⟩
      · rw [if_neg (by omega), if_pos e]
        exact fin 0
      · have hl := hl (by omega)
        rw [if_pos (by omega), if_pos e, if_neg (by omega), zw_id (by omega), fin]
    · rw [if_neg b, if_neg b]
end
