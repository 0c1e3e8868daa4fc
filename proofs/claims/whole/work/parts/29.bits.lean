/-! sets as bits: ST x p: the bits of x, of 0 to 29, are those with p -/
theorem bv_lt {n : Nat} (h : n < 2 ^ 30) : (BitVec.ofNat 32 n).toInt = (n : Int) := by
  rw [BitVec.toInt_ofNat', Int.bmod_def]
  omega
theorem bv_nat (n : Nat) : BitVec.ofInt 32 (n : Int) = BitVec.ofNat 32 n := BitVec.ofInt_natCast 32 n
theorem zand_nat {a b : Nat} (ha : a < 2 ^ 30) : zand a b = ((a &&& b : Nat) : Int) := by
  show (BitVec.ofInt 32 (a : Int) &&& BitVec.ofInt 32 (b : Int)).toInt = _
  rw [bv_nat, bv_nat, ← BitVec.ofNat_and]
  refine bv_lt ?_
  rw [Nat.and_comm]
  exact Nat.and_lt_two_pow _ ha
theorem zor_nat {a b : Nat} (ha : a < 2 ^ 30) (hb : b < 2 ^ 30) : zor a b = ((a ||| b : Nat) : Int) := by
  show (BitVec.ofInt 32 (a : Int) ||| BitVec.ofInt 32 (b : Int)).toInt = _
  rw [bv_nat, bv_nat, ← BitVec.ofNat_or]
  exact bv_lt (Nat.or_lt_two_pow ha hb)
theorem zandn_nat {a b : Nat} (ha : a < 2 ^ 30) : zand a (zxor b (-1)) = ((a &&& (b ^^^ (2 ^ 32 - 1)) : Nat) : Int) := by
  show (BitVec.ofInt 32 (a : Int) &&& BitVec.ofInt 32 (BitVec.ofInt 32 (b : Int) ^^^ BitVec.ofInt 32 (-1)).toInt).toInt = _
  rw [BitVec.ofInt_toInt, bv_nat, bv_nat, show BitVec.ofInt 32 (-1) = BitVec.ofNat 32 (2 ^ 32 - 1) by decide, ← BitVec.ofNat_xor, ← BitVec.ofNat_and]
  refine bv_lt ?_
  rw [Nat.and_comm]
  exact Nat.and_lt_two_pow _ ha
theorem zsh_fin : ∀ i : Fin 30, zshl 1 ((i : Nat) : Int) = ((2 ^ (i : Nat) : Nat) : Int) ∧ ((Int32.ofInt ((i : Nat) : Int) &&& 31).toBitVec.smod 32).toNat = (i : Nat) := by decide +kernel
theorem zshl_nat {i : Nat} (hi : i < 30) : zshl 1 i = ((2 ^ i : Nat) : Int) := (zsh_fin ⟨i, hi⟩).1
theorem zshr_nat {a i : Nat} (ha : a < 2 ^ 30) (hi : i < 30) : zshr a i = ((a >>> i : Nat) : Int) := by
  have h := (zsh_fin ⟨i, hi⟩).2
  show ((BitVec.ofInt 32 (a : Int)).sshiftRight' ((Int32.ofInt (i : Int) &&& 31).toBitVec.smod 32)).toInt = _
  rw [BitVec.sshiftRight_eq', BitVec.toInt_sshiftRight, bv_nat, bv_lt ha]
  dsimp only at h
  rw [h]
  rfl
theorem zand_le {x y : Int} (hy : 0 ≤ y ∧ y < 2 ^ 30) : 0 ≤ zand x y ∧ zand x y ≤ y := by
  have e : zand x y = (((BitVec.ofInt 32 x).toNat &&& y.toNat : Nat) : Int) := by
    show (BitVec.ofInt 32 x &&& BitVec.ofInt 32 y).toInt = _
    have k : BitVec.ofInt 32 y = BitVec.ofNat 32 y.toNat := by
      rw [← bv_nat, Int.toNat_of_nonneg hy.1]
    have l : BitVec.ofInt 32 x = BitVec.ofNat 32 (BitVec.ofInt 32 x).toNat := by rw [BitVec.ofNat_toNat, BitVec.setWidth_eq]
    rw [k]
    conv => lhs; rw [l]
    rw [← BitVec.ofNat_and]
    exact bv_lt (Nat.and_lt_two_pow _ (by omega))
  have h := @Nat.and_le_right (BitVec.ofInt 32 x).toNat y.toNat
  omega
def ST (x : Int) (p : Int → Prop) : Prop := ∃ n : Nat, x = n ∧ n < 2 ^ 30 ∧ ∀ i : Nat, i < 30 → (n.testBit i = true ↔ p i)
section
variable {x y : Int} {p q : Int → Prop}
theorem ST_0 : ST 0 (fun _ => False) := ⟨0, rfl, by decide, fun i _ => by rw [Nat.zero_testBit]; simp⟩
theorem ST_63 : ST 63 (fun i => i < 6) := ⟨63, rfl, by decide, fun i h => by
  have e := @Nat.testBit_two_pow_sub_one 6 i
  rw [show (63 : Nat) = 2 ^ 6 - 1 by rfl, e]
  simp
  omega⟩
theorem ST_cg (h : ST x p) (e : ∀ i, 0 ≤ i → i < 30 → (p i ↔ q i)) : ST x q := by
  obtain ⟨n, h1, h2, h3⟩ := h
  exact ⟨n, h1, h2, fun i hi => (h3 i hi).trans (e i (by omega) (by omega))⟩
theorem ST_rg (h : ST x p) : 0 ≤ x ∧ x < 1073741824 := by
  obtain ⟨n, h1, h2, h3⟩ := h
  omega
theorem ST_or (h : ST x p) (k : ST y q) : ST (zor x y) (fun i => p i ∨ q i) := by
  obtain ⟨n, h1, h2, h3⟩ := h
  obtain ⟨m, k1, k2, k3⟩ := k
  refine ⟨n ||| m, by rw [h1, k1, zor_nat h2 k2], Nat.or_lt_two_pow h2 k2, fun i hi => ?_⟩
  rw [Nat.testBit_or, Bool.or_eq_true, h3 i hi, k3 i hi]
theorem ST_and (h : ST x p) (k : ST y q) : ST (zand x y) (fun i => p i ∧ q i) := by
  obtain ⟨n, h1, h2, h3⟩ := h
  obtain ⟨m, k1, k2, k3⟩ := k
  refine ⟨n &&& m, by rw [h1, k1, zand_nat h2], Nat.and_lt_two_pow _ k2, fun i hi => ?_⟩
  rw [Nat.testBit_and, Bool.and_eq_true, h3 i hi, k3 i hi]
theorem ST_dif (h : ST x p) (k : ST y q) : ST (zand x (zxor y (-1))) (fun i => p i ∧ ¬ q i) := by
  obtain ⟨n, h1, h2, h3⟩ := h
  obtain ⟨m, k1, k2, k3⟩ := k
  refine ⟨n &&& (m ^^^ (2 ^ 32 - 1)), by rw [h1, k1, zandn_nat h2], by rw [Nat.and_comm]; exact Nat.and_lt_two_pow _ h2, fun i hi => ?_⟩
  rw [Nat.testBit_and, Nat.testBit_xor, Nat.testBit_two_pow_sub_one, Bool.and_eq_true, h3 i hi]
  refine and_congr_right fun _ => ?_
  rw [← k3 i hi, decide_eq_true (show i < 32 by omega)]
  cases m.testBit i <;> simp
theorem ST_1 {j : Int} (h : 0 ≤ j ∧ j < 30) : ST (zshl 1 j) (fun i => i = j) := by
  refine ⟨2 ^ j.toNat, ?_, Nat.pow_lt_pow_right (by decide) (by omega), fun i hi => ?_⟩
  · have e := zshl_nat (show j.toNat < 30 by omega)
    rw [Int.toNat_of_nonneg h.1] at e
    exact e
  · rw [Nat.testBit_two_pow]
    simp
    omega
theorem ST_at {j : Int} (h : ST x p) (hj : 0 ≤ j ∧ j < 30) : zand (zshr x j) 1 = bI (p j) := by
  obtain ⟨n, h1, h2, h3⟩ := h
  have e := zshr_nat h2 (show j.toNat < 30 by omega)
  rw [Int.toNat_of_nonneg hj.1, ← h1] at e
  have k := h3 j.toNat (by omega)
  rw [Int.toNat_of_nonneg hj.1] at k
  rw [e, show (1 : Int) = ((1 : Nat) : Int) from rfl, zand_nat (Nat.lt_of_le_of_lt (Nat.shiftRight_le n _) h2), Nat.and_one_is_mod]
  have t : n.testBit j.toNat = decide (n >>> j.toNat % 2 = 1) := by
    rw [Nat.testBit_eq_decide_div_mod_eq, Nat.shiftRight_eq_div_pow]
  generalize n >>> j.toNat = z at t ⊢
  by_cases hp : p j
  · rw [bI_t hp]
    rw [k.2 hp] at t
    have := of_decide_eq_true t.symm
    omega
  · rw [bI_f hp]
    have : ¬ (z % 2 = 1) := fun q => hp (k.1 (t.trans (decide_eq_true q)))
    omega
theorem ST_eq0 (h : ST x p) : x = 0 ↔ ∀ i, 0 ≤ i → i < 30 → ¬ p i := by
  obtain ⟨n, h1, h2, h3⟩ := h
  constructor
  · intro e i h4 h5 h6
    have h7 := (h3 i.toNat (by omega)).2 (by rw [Int.toNat_of_nonneg h4]; exact h6)
    rw [show n = 0 by omega, Nat.zero_testBit] at h7
    exact absurd h7 (by decide)
  · intro e
    have : n = 0 := by
      refine Nat.eq_of_testBit_eq fun i => ?_
      rw [Nat.zero_testBit]
      by_cases hi : i < 30
      · cases hb : n.testBit i
        · rfl
        · exact absurd ((h3 i hi).1 hb) (e i (by omega) (by omega))
      · exact Nat.testBit_lt_two_pow (Nat.lt_of_lt_of_le h2 (Nat.pow_le_pow_right (by decide) (by omega)))
    omega
theorem ST_un (h : ST x p) (k : ST y q) (e : ∀ i, 0 ≤ i → i < 30 → (p i ↔ q i)) : x = y := by
  obtain ⟨n, h1, h2, h3⟩ := h
  obtain ⟨m, k1, k2, k3⟩ := k
  have : n = m := by
    refine Nat.eq_of_testBit_eq fun i => ?_
    by_cases hi : i < 30
    · have := (h3 i hi).trans ((e i (by omega) (by omega)).trans (k3 i hi).symm)
      cases hn : n.testBit i <;> cases hm : m.testBit i <;> simp_all
    · rw [Nat.testBit_lt_two_pow (Nat.lt_of_lt_of_le h2 (Nat.pow_le_pow_right (by decide) (by omega))), Nat.testBit_lt_two_pow (Nat.lt_of_lt_of_le k2 (Nat.pow_le_pow_right (by decide) (by omega)))]
  omega
end
