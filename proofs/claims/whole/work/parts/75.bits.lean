/-! averages: the bits of a double of at least 1 -/
section
variable {K c : Nat}
def bD (K c : Nat) : FP.Core.Datum := .fin false c (-52 + K)
def bY (K c : Nat) : UInt64 := FP.Core.of64 (bD K c)
def b1 : UInt64 := FP.dconst1
def b2 : UInt64 := 4611686018427387904
def b52 : UInt64 := 4841369599423283200
theorem b_qmin : FP.Core.b64.qmin = -1074 := by decide
theorem b_qmax : FP.Core.b64.qmax = 971 := by decide
theorem b_tails : FP.Core.b64.tails = 4503599627370496 := by decide
theorem b_exps : FP.Core.b64.exps = 2048 := by decide
theorem b_p : 2 ^ FP.Core.b64.p = 9007199254740992 := by decide
def bok (K c : Nat) : Prop := K ≤ 20 ∧ 4503599627370496 ≤ c ∧ c < 9007199254740992
theorem b_fits' {s : Bool} {c : Nat} {q : Int} (h1 : 4503599627370496 ≤ c ∧ c < 9007199254740992) (h2 : -1074 ≤ q ∧ q ≤ 971) : FP.Core.fits FP.Core.b64 (.fin s c q) := by
  show c < 2 ^ FP.Core.b64.p ∧ FP.Core.b64.qmin ≤ q ∧ q ≤ FP.Core.b64.qmax ∧ (q = FP.Core.b64.qmin ∨ FP.Core.b64.tails ≤ c)
  rw [b_p, b_qmin, b_qmax, b_tails]
  exact ⟨h1.2, h2.1, h2.2, Or.inr h1.1⟩
theorem b_fits (h : bok K c) : FP.Core.fits FP.Core.b64 (bD K c) := by
  unfold bok at h
  exact b_fits' h.2 (by omega)
theorem b_val (h : bok K c) : FP.Core.val64 (bY K c) = bD K c := FP.Core.val64_of64 (b_fits h)
theorem b_nat (h : bok K c) : (bY K c).toNat = (1023 + K) * 4503599627370496 + (c - 4503599627370496) := by
  unfold bok at h
  have e : FP.Core.encode FP.Core.b64 (bD K c) = (1023 + K) * 4503599627370496 + (c - 4503599627370496) := by
    show (if c < FP.Core.b64.tails then FP.Core.assemble FP.Core.b64 false 0 c else FP.Core.assemble FP.Core.b64 false ((-52 + (K : Int) - FP.Core.b64.qmin).toNat + 1) (c - FP.Core.b64.tails)) = _
    rw [b_tails, b_qmin, if_neg (by omega)]
    unfold FP.Core.assemble
    rw [b_exps, b_tails, show (-52 + (K : Int) - -1074).toNat + 1 = 1023 + K by omega, Bool.toNat_false, Nat.zero_mul, Nat.zero_add]
  unfold bY FP.Core.of64
  rw [e, UInt64.toNat_ofNat_of_lt' (by show _ < 18446744073709551616; omega)]
theorem b_v1 : FP.Core.val64 b1 = .fin false 4503599627370496 (-52) := by decide +kernel
theorem b_v2 : FP.Core.val64 b2 = .fin false 4503599627370496 (-51) := by decide +kernel
theorem b_v52 : FP.Core.val64 b52 = .fin false 4503599627370496 0 := by decide +kernel
theorem b_ne {s : Bool} {c : Nat} {q : Int} : FP.Core.Datum.fin s c q ≠ .nan := fun h => by cases h
/-- bits of a finite number pass -/
theorem znan_ok {x : UInt64} (h : x.toNat < 9218868437227405312) : znan x = some (zD x) := by
  unfold znan
  rw [if_pos]
  rw [UInt64.le_iff_toNat_le, UInt64.toNat_and]
  have := @Nat.and_le_left x.toNat (UInt64.toNat 0x7fffffffffffffff)
  have e : UInt64.toNat 0x7ff0000000000000 = 9218868437227405312 := by decide
  omega
theorem b_znan (h : bok K c) : znan (bY K c) = some (zD (bY K c)) := by
  refine znan_ok ?_
  rw [b_nat h]
  unfold bok at h
  omega
theorem b_quot {s t : Nat} {q r : Int} (ht : t ≠ 0) : FP.Core.quotient FP.Core.b64 (.fin false s q) (.fin false t r) = FP.Core.roundRatio FP.Core.b64 false s t (q - r) := if_neg ht
/-- halves -/
theorem b_half (h : bok (K + 1) c) : FP.ddiv (bY (K + 1) c) b2 = bY K c := by
  have h0 : bok K c := by unfold bok at h ⊢; omega
  have e : FP.Core.val64 (FP.Core.ddiv (bY (K + 1) c) b2) = bD K c := by
    rw [FP.Core.val64_ddiv, b_val h, b_v2]
    unfold bD
    rw [b_quot (by decide)]
    refine FP.Core.roundRatio_exact FP.Core.good_b64 (by decide) (b_fits' (by unfold bok at h; omega) (by unfold bok at h; omega)) ?_
    rw [show (-52 + ((K + 1 : Nat) : Int) - -51 - (-52 + (K : Int))).toNat = 52 by omega, show (-52 + (K : Int) - (-52 + ((K + 1 : Nat) : Int) - -51)).toNat = 0 by omega]
    omega
  refine FP.Core.val64_inj (by show FP.Core.val64 (FP.Core.ddiv _ _) ≠ _; rw [e]; exact b_ne) ?_
  show FP.Core.val64 (FP.Core.ddiv _ _) = _
  rw [e, b_val h0]
theorem b_ord {s t : Nat} {q r : Int} : FP.Core.order (.fin false s q) (.fin false t r) = some (compare ((FP.Core.inUnits s q (min q r) : Nat) : Int) ((FP.Core.inUnits t r (min q r) : Nat) : Int)) := rfl
theorem cmp_lt {a b : Int} (h : a < b) : compare a b = .lt := by
  rw [Int.compare_eq_lt]
  exact h
theorem cmp_ge {a b : Int} (h : b ≤ a) : compare a b = .eq ∨ compare a b = .gt := by
  by_cases e : a = b
  · exact Or.inl (Int.compare_eq_eq.2 e)
  · exact Or.inr (Int.compare_eq_gt.2 (by omega))
theorem b_cmp0 (h : bok 0 c) : FP.dcmp (bY 0 c) b2 = some .lt := by
  show FP.Core.order (FP.Core.val64 (bY 0 c)) (FP.Core.val64 b2) = _
  rw [b_val h, b_v2]
  unfold bD
  rw [b_ord]
  unfold FP.Core.inUnits
  rw [show min (-52 + ((0 : Nat) : Int)) (-51) = -52 by decide, show (-52 + ((0 : Nat) : Int) - -52).toNat = 0 by decide, show ((-51 : Int) - -52).toNat = 1 by decide, cmp_lt (by unfold bok at h; omega)]
theorem b_cmpS (h : bok (K + 1) c) : FP.dcmp (bY (K + 1) c) b2 = some .eq ∨ FP.dcmp (bY (K + 1) c) b2 = some .gt := by
  have e : FP.dcmp (bY (K + 1) c) b2 = some (compare (((c * 2 ^ K : Nat)) : Int) ((4503599627370496 * 2 ^ 0 : Nat) : Int)) := by
    show FP.Core.order (FP.Core.val64 (bY (K + 1) c)) (FP.Core.val64 b2) = _
    rw [b_val h, b_v2]
    unfold bD
    rw [b_ord]
    unfold FP.Core.inUnits
    rw [show min (-52 + ((K + 1 : Nat) : Int)) (-51) = -51 by omega, show (-52 + ((K + 1 : Nat) : Int) - -51).toNat = K by omega, show ((-51 : Int) - -51).toNat = 0 by decide]
  have p := Nat.mul_le_mul_left c (Nat.one_le_two_pow (n := K))
  rw [e]
  unfold bok at h
  rcases cmp_ge (a := ((c * 2 ^ K : Nat) : Int)) (b := ((4503599627370496 * 2 ^ 0 : Nat) : Int)) (by omega) with k | k
  · exact Or.inl (by rw [k])
  · exact Or.inr (by rw [k])
theorem b_cmp1 (h : bok K c) : FP.dcmp (bY K c) b1 = some .eq ∨ FP.dcmp (bY K c) b1 = some .gt := by
  have e : FP.dcmp (bY K c) b1 = some (compare (((c * 2 ^ K : Nat)) : Int) ((4503599627370496 * 2 ^ 0 : Nat) : Int)) := by
    show FP.Core.order (FP.Core.val64 (bY K c)) (FP.Core.val64 b1) = _
    rw [b_val h, b_v1]
    unfold bD
    rw [b_ord]
    unfold FP.Core.inUnits
    rw [show min (-52 + (K : Int)) (-52) = -52 by omega, show (-52 + (K : Int) - -52).toNat = K by omega, show ((-52 : Int) - -52).toNat = 0 by decide]
  have p := Nat.mul_le_mul_left c (Nat.one_le_two_pow (n := K))
  rw [e]
  unfold bok at h
  rcases cmp_ge (a := ((c * 2 ^ K : Nat) : Int)) (b := ((4503599627370496 * 2 ^ 0 : Nat) : Int)) (by omega) with k | k
  · exact Or.inl (by rw [k])
  · exact Or.inr (by rw [k])
theorem znan_fin {x : UInt64} {s : Bool} {c : Nat} {q : Int} (e : FP.Core.val64 x = .fin s c q) : znan x = some (zD x) := by
  have f : FP.Core.fieldE FP.Core.b64 x.toNat ≠ 2047 := by
    intro k
    unfold FP.Core.val64 FP.Core.decode at e
    rw [b_exps, if_pos k] at e
    split at e <;> cases e
  unfold FP.Core.fieldE at f
  rw [b_exps, b_tails] at f
  unfold znan
  rw [if_pos]
  rw [UInt64.le_iff_toNat_le, UInt64.toNat_and, show UInt64.toNat 0x7fffffffffffffff = 2 ^ 63 - 1 by decide, Nat.and_two_pow_sub_one_eq_mod, show UInt64.toNat 0x7ff0000000000000 = 9218868437227405312 by decide]
  omega
/-- what is behind the leading digit, as a whole number -/
theorem b_tail (h : bok 0 c) : ∃ x y : UInt64, FP.dsub (bY 0 c) b1 = x ∧ znan x = some (zD x) ∧ FP.dmul x b52 = y ∧ znan y = some (zD y) ∧ FP.d2l y = Int64.ofInt ((c - 4503599627370496 : Nat) : Int) := by
  by_cases z : c = 4503599627370496
  · subst z
    refine ⟨_, _, rfl, by decide +kernel, rfl, by decide +kernel, by decide +kernel⟩
  · have hb := h
    unfold bok at hb
    obtain ⟨t, ht⟩ : ∃ t, c = 4503599627370496 + t := ⟨c - 4503599627370496, by omega⟩
    have t0 : 0 < t := by omega
    have l1 : 2 ^ t.log2 ≤ t := Nat.log2_self_le (by omega)
    have l2 : t < 2 ^ (t.log2 + 1) := Nat.lt_log2_self
    have lL : t.log2 < 52 := (Nat.log2_lt (by omega)).2 (by omega)
    generalize t.log2 = L at *
    have pw : 2 ^ L * 2 ^ (52 - L) = 4503599627370496 := by
      rw [← Nat.pow_add, show L + (52 - L) = 52 by omega]
    have c1 : 4503599627370496 ≤ t * 2 ^ (52 - L) := by
      rw [← pw]
      exact Nat.mul_le_mul_right _ l1
    have c2 : t * 2 ^ (52 - L) < 9007199254740992 := by
      have k : t * 2 ^ (52 - L) < 2 ^ (L + 1) * 2 ^ (52 - L) := Nat.mul_lt_mul_of_pos_right l2 (Nat.two_pow_pos _)
      have e : 2 ^ (L + 1) * 2 ^ (52 - L) = 9007199254740992 := by
        rw [← Nat.pow_add, show L + 1 + (52 - L) = 53 by omega]
      omega
    have vx : FP.Core.val64 (FP.Core.dsub (bY 0 c) b1) = .fin false (t * 2 ^ (52 - L)) ((L : Int) - 104) := by
      rw [FP.Core.val64_dsub, b_val h, b_v1]
      have e : FP.Core.exactSum (bD 0 c) (FP.Core.negate (.fin false 4503599627370496 (-52))) = .fin false t (-52) := by
        have su : FP.Core.sumUnits false c (-52) true 4503599627370496 (-52) (-52) = (t : Int) := by
          unfold FP.Core.sumUnits FP.Core.inUnits FP.Core.signed
          rw [if_neg (by decide), if_pos rfl, show ((-52 : Int) - -52).toNat = 0 by decide]
          omega
        show FP.Core.Datum.fin (FP.Core.sumSign false true (FP.Core.sumUnits false c (-52) true 4503599627370496 (-52) (-52))) (FP.Core.sumUnits false c (-52) true 4503599627370496 (-52) (-52)).natAbs (-52) = _
        rw [su]
        unfold FP.Core.sumSign
        rw [if_neg (by omega), decide_eq_false (by omega), Int.natAbs_natCast]
      rw [e]
      show FP.Core.roundRatio FP.Core.b64 false t 1 (-52) = _
      refine FP.Core.roundRatio_exact FP.Core.good_b64 (by decide) (b_fits' ⟨c1, c2⟩ (by omega)) ?_
      rw [show (-52 - ((L : Int) - 104)).toNat = 52 - L by omega, show ((L : Int) - 104 - -52).toNat = 0 by omega]
      omega
    have vy : FP.Core.val64 (FP.Core.dmul (FP.Core.dsub (bY 0 c) b1) b52) = .fin false (t * 2 ^ (52 - L)) ((L : Int) - 52) := by
      rw [FP.Core.val64_dmul, vx, b_v52]
      show FP.Core.roundRatio FP.Core.b64 false (t * 2 ^ (52 - L) * 4503599627370496) 1 ((L : Int) - 104 + 0) = _
      refine FP.Core.roundRatio_exact FP.Core.good_b64 (by decide) (b_fits' ⟨c1, c2⟩ (by omega)) ?_
      rw [show ((L : Int) - 104 + 0 - ((L : Int) - 52)).toNat = 0 by omega, show ((L : Int) - 52 - ((L : Int) - 104 + 0)).toNat = 52 by omega]
      omega
    have nn : ∀ x : UInt64, (∃ c q, FP.Core.val64 x = .fin false c q) → znan x = some (zD x) := by
      rintro x ⟨c, q, e⟩
      exact znan_fin e
    refine ⟨_, _, rfl, nn _ ⟨_, _, vx⟩, rfl, nn _ ⟨_, _, vy⟩, ?_⟩
    show Int64.ofInt (FP.Core.toInt (-2 ^ 63) (2 ^ 63 - 1) (FP.Core.val64 (FP.Core.dmul (FP.Core.dsub (bY 0 c) b1) b52))) = _
    rw [vy]
    have tu : FP.Core.truncate false (t * 2 ^ (52 - L)) ((L : Int) - 52) = (t : Int) := by
      unfold FP.Core.truncate FP.Core.signed
      rw [if_neg (by decide), show ((L : Int) - 52).toNat = 0 by omega, show (-((L : Int) - 52)).toNat = 52 - L by omega, Nat.pow_zero, Nat.mul_one, Nat.mul_div_cancel _ (Nat.two_pow_pos _)]
    show Int64.ofInt (max (-2 ^ 63) (min (2 ^ 63 - 1) (FP.Core.truncate false (t * 2 ^ (52 - L)) ((L : Int) - 52)))) = _
    rw [tu]
    exact congrArg Int64.ofInt (by omega)
/-- the bits out of the exponent and what is behind the leading digit -/
theorem b_join (h : bok K c) : (Int64.ofInt (1023 + (K : Int)) <<< ((Int32.ofInt 52).toInt64 &&& 63)) ||| Int64.ofInt ((c - 4503599627370496 : Nat) : Int) = (bY K c).toInt64 := by
  have n := b_nat h
  unfold bok at h
  have e1 : (1023 + (K : Int)) = ((1023 + K : Nat) : Int) := by omega
  have sh : ((((Int32.ofInt 52).toInt64 &&& 63).toBitVec.smod 64)).toNat = 52 := by decide +kernel
  refine Int64.toBitVec_inj.1 ?_
  show (BitVec.ofInt 64 (1023 + (K : Int)) <<< (((Int32.ofInt 52).toInt64 &&& 63).toBitVec.smod 64)) ||| BitVec.ofInt 64 ((c - 4503599627370496 : Nat) : Int) = (bY K c).toBitVec
  rw [BitVec.shiftLeft_eq', sh, e1, BitVec.ofInt_natCast, BitVec.ofInt_natCast]
  refine BitVec.eq_of_toNat_eq ?_
  rw [BitVec.toNat_or, BitVec.toNat_shiftLeft, BitVec.toNat_ofNat, BitVec.toNat_ofNat, Nat.mod_eq_of_lt (a := 1023 + K) (by omega), Nat.mod_eq_of_lt (a := c - 4503599627370496) (by omega), Nat.mod_eq_of_lt (a := (1023 + K) <<< 52) (by rw [Nat.shiftLeft_eq]; omega), ← Nat.shiftLeft_add_eq_or_of_lt (by omega), Nat.shiftLeft_eq]
  show _ = (bY K c).toNat
  rw [n]
end
