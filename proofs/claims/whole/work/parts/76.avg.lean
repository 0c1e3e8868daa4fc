/-! averages: the quotient of two whole numbers -/
section
theorem b_round {s n : Nat} (hn : 0 < n ∧ n ≤ s) (hs : s ≤ 8000) : ∃ K c, bok K c ∧ FP.Core.roundRatio FP.Core.b64 false s n 0 = bD K c := by
  have hs0 : 0 < s := by omega
  have l := FP.Core.leading_spec hs0 hn.1
  have nb0 : ¬ FP.Core.Below s n 0 := by
    show ¬ (s * 2 ^ 0 < n * 2 ^ 0)
    omega
  have b14 : FP.Core.Below s n 14 := by
    show s * 2 ^ 0 < n * 2 ^ 14
    omega
  have q0 := FP.Core.lt_of_below nb0 l.2
  have q1 := FP.Core.lt_of_below l.1 b14
  have qu : FP.Core.quantum FP.Core.b64 s n 0 = FP.Core.leading s n - 52 := by
    show max FP.Core.b64.qmin (FP.Core.leading s n + 0 - (((53 : Nat) : Int) - 1)) = _
    rw [b_qmin]
    omega
  have up := FP.Core.nearest_units_le (f := FP.Core.b64) hs0 hn.1 0
  have lo : 4503599627370496 ≤ FP.Core.nearest (FP.Core.unitsNum s 0 (FP.Core.quantum FP.Core.b64 s n 0)) (FP.Core.unitsDen n 0 (FP.Core.quantum FP.Core.b64 s n 0)) := by
    refine FP.Core.nearest_ge (FP.Core.unitsDen_pos hn.1 ..) ?_
    have u := FP.Core.units_below s n 0 (FP.Core.quantum FP.Core.b64 s n 0) 52
    have nb : ¬ FP.Core.Below s n (FP.Core.quantum FP.Core.b64 s n 0 - 0 + ((52 : Nat) : Int)) := by
      rw [qu, show FP.Core.leading s n - 52 - 0 + ((52 : Nat) : Int) = FP.Core.leading s n by omega]
      exact l.1
    exact Nat.le_of_not_lt (fun z => nb (u.1 z))
  rw [b_p] at up
  unfold FP.Core.roundRatio FP.Core.roundAt FP.Core.settle
  rw [if_neg (by omega), b_p]
  generalize FP.Core.nearest (FP.Core.unitsNum s 0 (FP.Core.quantum FP.Core.b64 s n 0)) (FP.Core.unitsDen n 0 (FP.Core.quantum FP.Core.b64 s n 0)) = c0 at *
  rw [qu]
  obtain ⟨K, hK⟩ : ∃ K : Nat, FP.Core.leading s n = K := ⟨(FP.Core.leading s n).toNat, by omega⟩
  have K14 : K < 14 := by omega
  rw [hK]
  unfold FP.Core.bound
  rw [b_qmax, b_tails]
  by_cases z : c0 < 9007199254740992
  · refine ⟨K, c0, by unfold bok; omega, ?_⟩
    rw [if_pos z, if_pos (by omega)]
    unfold bD
    exact congrArg (FP.Core.Datum.fin false c0) (by omega)
  · refine ⟨K + 1, 4503599627370496, by unfold bok; omega, ?_⟩
    rw [if_neg z, if_pos (by omega)]
    unfold bD
    exact congrArg (FP.Core.Datum.fin false 4503599627370496) (by omega)
theorem b_i2d {s : Nat} (hs : s ≤ 8000) : ∃ c q, FP.Core.val64 (FP.i2d (Int32.ofInt (s : Int))) = .fin false c q ∧ s * 2 ^ (0 - q).toNat = c * 2 ^ (q - 0).toNat := by
  obtain ⟨c, q, h1, h2⟩ := FP.Core.natFit FP.Core.good_b64 FP.Core.wide_b64 false (n := s) (by rw [b_p]; omega)
  rw [Nat.mul_one] at h2
  refine ⟨c, q, ?_, h2⟩
  show FP.Core.val64 (FP.Core.i2d (Int32.ofInt (s : Int))) = _
  rw [FP.Core.val64_i2d, Int32.toInt_ofInt_of_le (by omega) (by omega)]
  show FP.Core.roundRatio FP.Core.b64 (decide ((s : Int) < 0)) ((s : Int).natAbs) 1 0 = _
  rw [decide_eq_false (by omega), Int.natAbs_natCast]
  exact FP.Core.roundRatio_exact FP.Core.good_b64 (by decide) h1 (by rw [Nat.mul_one]; exact h2)
theorem b_avg {s n : Nat} (hn : 0 < n ∧ n ≤ s) (hs : s ≤ 8000) : ∃ K c, bok K c ∧ FP.ddiv (FP.i2d (Int32.ofInt (s : Int))) (FP.i2d (Int32.ofInt (n : Int))) = bY K c := by
  obtain ⟨c1, q1, v1, e1⟩ := b_i2d hs
  obtain ⟨c2, q2, v2, e2⟩ := b_i2d (s := n) (by omega)
  obtain ⟨K, c, hb, e⟩ := b_round hn hs
  have p : ∀ k : Nat, 0 < 2 ^ k := fun k => Nat.two_pow_pos k
  have hc2 : c2 ≠ 0 := by
    intro z
    rw [z, Nat.zero_mul] at e2
    have := Nat.mul_pos hn.1 (p (0 - q2).toNat)
    omega
  have v : FP.Core.val64 (FP.Core.ddiv (FP.i2d (Int32.ofInt (s : Int))) (FP.i2d (Int32.ofInt (n : Int)))) = bD K c := by
    rw [FP.Core.val64_ddiv, v1, v2, b_quot hc2, ← e]
    refine FP.Core.roundRatio_congr (by omega) hn.1 ?_
    refine Nat.eq_of_mul_eq_mul_right (p ((0 - q1).toNat + (q2 - 0).toNat)) ?_
    have ex : (q1 - q2 - 0).toNat + ((0 - q1).toNat + (q2 - 0).toNat) = (q1 - 0).toNat + (0 - q2).toNat + (0 - (q1 - q2)).toNat := by omega
    have l1 : c1 * n * 2 ^ (q1 - q2 - 0).toNat * 2 ^ ((0 - q1).toNat + (q2 - 0).toNat) = (c1 * 2 ^ (q1 - 0).toNat) * (n * 2 ^ (0 - q2).toNat) * 2 ^ (0 - (q1 - q2)).toNat := by
      rw [Nat.mul_assoc, ← Nat.pow_add, ex, Nat.pow_add, Nat.pow_add]
      ac_rfl
    rw [l1, ← e1, e2, Nat.pow_add]
    ac_rfl
  refine ⟨K, c, hb, FP.Core.val64_inj (by show FP.Core.val64 (FP.Core.ddiv _ _) ≠ _; rw [v]; exact b_ne) ?_⟩
  show FP.Core.val64 (FP.Core.ddiv _ _) = _
  rw [v, b_val hb]
theorem b_zero : ∀ n : Fin 13, 0 < (n : Nat) → FP.ddiv (FP.i2d (Int32.ofInt 0)) (FP.i2d (Int32.ofInt ((n : Nat) : Int))) = 0 := by decide +kernel
end
