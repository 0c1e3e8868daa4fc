/-! small methods -/
theorem Cb_I {d k pc : Nat} {ls rest : List ZV} {x : ZV} {M : ZM} : Cb (Rt (some x) M) (fun v h => zrun (zevl d) k pc ls (v.toList ++ rest) h) = Q d k pc ls (x :: rest) M := rfl
theorem Cb_V {d k pc : Nat} {ls rest : List ZV} {M : ZM} : Cb (Rt none M) (fun v h => zrun (zevl d) k pc ls (v.toList ++ rest) h) = Q d k pc ls rest M := rfl
theorem zw_id {x : Int} (h : -2147483648 ≤ x ∧ x < 2147483648) : zw x = x := by unfold zw; omega
def bI (p : Prop) (i : Decidable p) : Int := if p then 1 else 0
abbrev bb (p : Prop) {i : Decidable p} : Int := bI p i
theorem bb_01 {p : Prop} {i : Decidable p} : bb p = 0 ∨ bb p = 1 := by unfold bb bI; split <;> simp
theorem bb_t {p : Prop} {i : Decidable p} (h : p) : bb p = 1 := by unfold bb bI; rw [if_pos h]
theorem bb_f {p : Prop} {i : Decidable p} (h : ¬ p) : bb p = 0 := by unfold bb bI; rw [if_neg h]
theorem bb_eq0 {p : Prop} {i : Decidable p} : bb p = 0 ↔ ¬ p := by unfold bb bI; split <;> simp [*]
theorem bb_ne0 {p : Prop} {i : Decidable p} : bb p ≠ 0 ↔ p := by unfold bb bI; split <;> simp [*]
-- the reference's
theorem m_in {d : Nat} (a b c : Int) (M : ZM) : E (d + 1) 153 [zI a, zI b, zI c] M = Rt (some (zI (bb (b ≤ a ∧ a ≤ c)))) M := by
  rw [en_153, q_153_0]
  split
  · rw [bb_f (by omega)]
  · split
    · rw [bb_f (by omega)]
    · rw [bb_t (by omega)]
theorem m_isRoom {d : Nat} (r : Int) (M : ZM) (h : 0 ≤ M 139 120 ∧ M 139 120 ≤ 12) : E (d + 2) 154 [zR 138, zI r] M = Rt (some (zI (bb (0 ≤ r ∧ r < M 139 120)))) M := by
  rw [en_154, q_154_0, m_in, Cb_I, q_154_14, if_pos bb_01, zw_id (by omega)]
  congr 3
  unfold bb bI
  by_cases q : 0 ≤ r ∧ r < M 139 120
  · rw [if_pos q, if_pos (by omega)]
  · rw [if_neg q, if_neg (by omega)]
theorem m_of {d : Nat} (r w : Int) (M : ZM) (h : 0 ≤ 5 * r + w ∧ 5 * r + w < 124) (hr : 0 ≤ r ∧ r < 100) : E (d + 1) 156 [zR 138, zI r, zI w] M = Rt (some (zI (M 139 (5 * r + w)))) M := by
  rw [en_156, q_156_0]
  have e : zw (zw (0 + zw (5 * r)) + w) = 5 * r + w := by unfold zw; omega
  rw [e, if_pos h]
theorem m_way {d : Nat} (c w : Int) (M : ZM) (h : 0 ≤ w ∧ w < 3) (hr : 0 ≤ c ∧ c < 20) : E (d + 1) 157 [zR 138, zI c, zI w] M = Rt (some (zI (M 139 (60 + 3 * c + w)))) M := by
  rw [en_157, q_157_0]
  have e : zw (zw (60 + zw (3 * c)) + w) = 60 + 3 * c + w := by unfold zw; omega
  rw [e, if_pos (by omega)]
theorem m_told {d : Nat} (c : Int) (M : ZM) : E (d + 1) 169 [zI c] M = Rt (some (zI (if c = -1 then -104 else c))) M := by
  rw [en_169, q_169_0]
  by_cases h : c = -1
  · rw [if_pos h, if_neg (by omega)]
  · rw [if_neg h, if_pos (by omega)]
