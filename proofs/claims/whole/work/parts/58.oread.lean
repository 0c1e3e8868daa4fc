/-! read, on both sides -/
section
variable {d : Nat} {M : ZM} {T U : Int → Int} {n : Int} {g : Int → Int}
theorem txt_cg (h : ∀ i, 0 ≤ i → i < n → U i = T i) : kS U n = kS T n ∧ okT U n = okT T n ∧ fpos U n = fpos T n ∧ gsq U n g = gsq T n g ∧ rS U n g = rS T n g ∧ cps U n = cps T n := by
  have e1 : chr U n = chr T n := chr_f h
  have e2 : cmd U n = cmd T n := funext fun p => cmd_cg h
  have e3 : cps U n = cps T n := funext fun k => by unfold cps; rw [e2]
  have e4 : crs U n = crs T n := funext fun k => by unfold crs; rw [e2, e3]
  have e5 : cgo' U n = cgo' T n := funext fun k => by unfold cgo'; rw [e1, e4]
  have e6 : kS U n = kS T n := by unfold kS; rw [e5]
  have e7 : gsq U n g = gsq T n g := funext fun j => by unfold gsq; rw [e1, e3, e4]
  have e8 : asq U n g = asq T n g := funext fun j => by unfold asq; rw [e7, e1, e3, e4]
  have e9 : rfd U n g = rfd T n g := funext fun j => by unfold rfd; rw [e8]
  refine ⟨e6, ?_, ?_, e7, ?_, e3⟩
  · unfold okT; rw [e4, e6]
  · unfold fpos; rw [e4, e6]
  · unfold rS; rw [e9, e6]
theorem o_read {S : Int → Int} (hr : RL S M) : uok (d + 20) 116 205 [] S M := by
  have h' := hr
  obtain ⟨h1, h2, h3, h4, h5, t1, t2, t3, t4⟩ := hr
  have z := zSC_b
  have sl := slo_rg (M 19 1)
  generalize hn : M 84 5 = n at *
  generalize hT : M 85 = T at *
  generalize hU : M 148 = U at *
  generalize hg : M 139 = g at *
  have tu : ∀ i, 0 ≤ i → i < n → U i = T i := fun i i0 i1 => (t3 i i0 i1).1
  obtain ⟨c1, c2, c3, c4, c5, c6⟩ := txt_cg (g := g) tu
  obtain ⟨M1, e1, f1, p1, v1⟩ := x_parse (d := d + 14) (M := M) hT hn t1
  have m1 : ∀ b, b < 84 ∨ b = 85 ∨ 108 < b → M1 b = M b := f1.1
  by_cases ok : okT T n
  · obtain ⟨k19, k6, kp⟩ := v1 ok
    generalize hM2 : zwr (zwr M1 84 7 (-104)) 84 5 0 = M2
    have m2 : ∀ b, b < 84 ∨ b = 85 ∨ 108 < b → M2 b = M b := fun b hb => by rw [← hM2, zwr_n (by omega), zwr_n (by omega)]; exact m1 b hb
    have m2' : ∀ b, b ≠ 84 → M2 b = M1 b := fun b hb => by rw [← hM2, zwr_n hb, zwr_n hb]
    have m27 : M2 84 7 = -104 := by rw [← hM2, zwr_nj (by decide), zwr_at]
    have m25 : M2 84 5 = 0 := by rw [← hM2, zwr_at]
    have m26 : M2 84 6 = kS T n + 1 := by rw [← hM2, zwr_nj (by decide), zwr_nj (by decide)]; exact k6
    have m219 : M2 19 = M 19 := m2 19 (by omega)
    have d2 : dgr M2 1 g := dgr_cg (fun b b0 b1 => m2 b (by omega)) h3
    obtain ⟨Ma, ea, fa, da⟩ := x_prepare (d := d + 16) (M := M2) (by rw [m219]; exact h4.1) h2 d2
    rw [m219] at fa da
    have da1 : dgr Ma 1 g := dgr_cg (fun b b0 b1 => fa b (by omega)) d2
    have kpa : kept Ma T n (kS T n + 1) := by
      intro j j0 j1
      obtain ⟨q1, q2, q3⟩ := kp j j0 j1
      rw [fa 86 (by omega), fa 87 (by omega), m2' 86 (by decide), m2' 87 (by decide)]
      refine ⟨q1, q2, fun i i0 i1 => ?_⟩
      rw [fa (89 + j.toNat) (by omega), m2' (89 + j.toNat) (by omega)]
      exact q3 i i0 i1
    obtain ⟨Mb, fb1, fb2, xx⟩ := x_execute (d := d + 8) (M := Ma) t1 ok h2 da1 k19 (by rw [fa 84 (by omega)]; exact m26) kpa
    have bM : ∀ b, (b = 0 ∨ (10 ≤ b ∧ b < 84) ∨ b = 85 ∨ 108 < b) → (b < slo (M 19 1) ∨ slo (M 19 1) + 8 < b) → Mb b = M b := fun b hb q => ((fb1 b (by omega)).trans (fa b (by omega))).trans (m2 b (by omega))
    have b19 : Mb 19 = M 19 := bM 19 (by omega) (by omega)
    have hb1 : 0 ≤ Mb 19 1 ∧ Mb 19 1 < 7 := by rw [b19]; exact h4.1
    have hb2 : 0 ≤ Mb 19 2 ∧ Mb 19 2 ≤ 6 := by rw [b19, h4.2.2.1]; exact h4.2.1
    have bsl : dgr Mb (slo (M 19 1)) g := dgr_cg (fun b b0 b1 => fb1 b (by omega)) da
    have start : E (d + 20) 116 [zR 0] M = Cb (E (d + 19) 95 [zR 84, zR 1] Ma) (fun v h => zrun (zevl (d + 19)) 116 35 [zR 0] (v.toList ++ []) h) := by
      rw [en_116, q_116_0, en_87, q_87_0, e1, Cb_I, q_87_4, bI_t ok, if_neg (by decide), if_pos (Or.inr rfl), hM2, Cb_I, q_116_7, if_pos (by decide), ea, Cb_V, q_116_24]
    rcases xx with ⟨rs, ex, b84, db⟩ | ⟨rs, ex, b7⟩
    · -- all commands are done
      have a84 : Mb 84 = M2 84 := b84.trans (fa 84 (by omega))
      obtain ⟨Mc, fc, mm⟩ := m_first (d := d + 14) (M := cmx Mb) (T := U) (n := n) (by rw [cmx_n (by decide), bM 148 (by omega) (by omega)]; exact hU) (by rw [cmx_n (by decide), bM 138 (by omega) (by omega)]; exact t2) t1
      rcases mm with ⟨no, -⟩ | ⟨-, em⟩
      · rw [c2] at no
        exact absurd ok no
      · obtain ⟨Md, ed, fd, ad⟩ := m_remembers (d := d + 18) (M := Mc)
        have mc39 : Mc 139 = g := ((fc.1 139 (by decide) (by decide)).trans ((cmx_n (by decide)).trans (bM 139 (by omega) (by omega)))).trans hg
        have mc38 : ∀ f, f ≠ 19 → f ≠ 20 → Md 138 f = M 138 f := fun f q1 q2 => by rw [fd 138 (by decide), fc.2 f q1 q2, cmx_n (by decide), bM 138 (by omega) (by omega)]
        have mdb : ∀ b, b ≠ 138 → b ≠ 149 → b ≠ 142 → Md b = cmx Mb b := fun b q1 q2 q3 => (fd b q3).trans (fc.1 b q1 q2)
        have md42 : agr 124 (Md 142) g := fun i i0 i1 => by rw [ad i i0 i1, mc39]
        have md48 : Md 148 = U := ((mdb 148 (by decide) (by decide) (by decide)).trans ((cmx_n (by decide)).trans (bM 148 (by omega) (by omega)))).trans hU
        have md39 : Md 139 = g := (fd 139 (by decide)).trans mc39
        rcases m_second (d := d + 7) (M := Md) (T := U) (n := n) (g := g) md48 ((mc38 17 (by decide) (by decide)).trans t2) t1 (by rw [c2]; exact ok) h2 md39 (by rw [mc38 2 (by decide) (by decide)]; exact h4.2.1) md42 with ⟨-, M5, f5, g5, s5, w5, fin⟩ | ⟨rs', -⟩
        · have m52 : M5 138 2 = M 138 2 := (f5.2 2 (by decide) (by decide) (by decide) (by decide)).trans (mc38 2 (by decide) (by decide))
          obtain ⟨Mf, ef, ff, hf⟩ := m_changes (d := d + 18) (M := M5) (by rw [m52]; exact h4.2.1)
          have fin := fin Mf ef
          have fb : ∀ b, b < 138 ∨ 152 < b ∨ b = 141 ∨ b = 148 → Mf b = cmx Mb b := fun b hb => ((ff.1 b (by omega) (by omega)).trans (f5.1 b (by omega) (by omega) (by omega))).trans (mdb b (by omega) (by omega) (by omega))
          have fM : ∀ b, (b = 0 ∨ (10 ≤ b ∧ b < 84) ∨ b = 85 ∨ (108 < b ∧ b < 138) ∨ 152 < b ∨ b = 141 ∨ b = 148) → b ≠ 19 → (b < slo (M 19 1) ∨ slo (M 19 1) + 8 < b) → Mf b = M b := fun b hb q r => ((fb b (by omega)).trans (cmx_n q)).trans (bM b (by omega) r)
          have p : ∀ f, f ≠ 2 → f ≠ 17 → f ≠ 18 → f ≠ 19 → f ≠ 20 → Mf 138 f = M 138 f := fun f q1 q2 q3 q4 q5 => ((ff.2 f q1).trans (f5.2 f q2 q3 q4 q5)).trans (mc38 f q4 q5)
          have f39 : Mf 139 = gsq T n g (kS T n + 1) := by rw [ff.1 139 (by decide) (by decide), g5, c4, c1]
          have W := gsq_w t1 ok h2 (j := kS T n + 1) (by have := (kS_sp (T := T) t1).1; omega)
          have n1 : cmx Mb 19 1 = (M 19 1 + 1) % 7 := by
            unfold cmx
            rw [zwr_nj (by decide), zwr_at, b19]
          have n2 : cmx Mb 19 2 = (if 6 < M 19 2 + 1 then 6 else M 19 2 + 1) := by
            unfold cmx
            rw [zwr_at, b19]
          have m540 : M5 140 = M 140 := ((f5.1 140 (by decide) (by decide) (by decide)).trans (mdb 140 (by decide) (by decide) (by decide))).trans ((cmx_n (by decide)).trans (bM 140 (by omega) (by omega)))
          have m542 : M5 142 = Md 142 := f5.1 142 (by decide) (by decide) (by decide)
          refine ⟨zI (kS T n + 1), cmx Mb, Mf, ?_, ?_, (fM zSC (by omega) (by omega) (by omega)).trans h1, by rw [f39]; exact W, by rw [f39]; exact dgr_cg (fun b b0 b1 => (fb b (by omega)).trans (cmx_n (by omega))) db, HI_1 (g0 := g) h4 ⟨by rw [fb 19 (by omega), n1], by rw [fb 19 (by omega), n2], fun b q r => ?_, h2, dgr_cg (fun b b0 b1 => (fb b (by omega)).trans (cmx_n (by omega))) bsl⟩ ⟨?_, fun i i0 i1 => ?_⟩, SV_cg h5 (fM 0 (by omega) (by omega) (by omega)) (fun b b0 b1 => fM b (by omega) (by omega) (by omega)) (p 4 (by decide) (by decide) (by decide) (by decide) (by decide)) (fM 141 (by omega) (by omega) (by omega)), ?_⟩
          · have s0 := (kS_sp (T := T) t1).1
            rw [start, ex, Cb_I, q_116_35, if_pos (by decide), a84, m26, x_settled hb1 hb2, Cb_I, q_116_63, if_neg (by omega)]
          · rw [em, ed, Cb_V]
            refine fin.trans ?_
            rw [c1]
          · by_cases e : b = 19
            · omega
            · exact fM b (by omega) e r
          · rw [hf.1, m52]
          · obtain ⟨q, r⟩ := hf.2 i i0 i1
            rw [m52, m540] at q
            rw [m542] at r
            exact ⟨q, r.trans (md42 i i0 i1)⟩
          · have x84 : Mf 84 = M2 84 := ((fb 84 (by omega)).trans (cmx_n (by decide))).trans a84
            have y17 : Mf 138 17 = 0 := (ff.2 17 (by decide)).trans s5
            have y18 : Mf 138 18 = -104 := (ff.2 18 (by decide)).trans w5
            refine ⟨by rw [x84, m25]; omega, by rw [x84, m25, y17], fun i i0 i1 => ?_, by rw [x84, m27, y18]⟩
            rw [x84, m25] at i1
            omega
        · rw [c5] at rs'
          exact absurd rs rs'
    · -- a command is refused
      have a5 : Mb 84 5 = 0 := by rw [fb2 5 (by decide), fa 84 (by omega)]; exact m25
      obtain ⟨Mr, er, fr, dr⟩ := x_become (d := d + 16) (M := Mb) (D := 1) zDn_1 (zDn_slo (M 19 1)) (by omega) h2 bsl
      have es : slo (M 19 1) = 21 + 9 * (M 19 1).toNat := by
        unfold slo
        rw [Int.emod_eq_of_lt h4.1.1 h4.1.2]
      rw [es] at er
      have rM : ∀ b, (b = 0 ∨ (10 ≤ b ∧ b < 84) ∨ b = 85 ∨ 108 < b) → (b < slo (M 19 1) ∨ slo (M 19 1) + 8 < b) → Mr b = M b := fun b hb q => (fr b (by omega)).trans (bM b hb q)
      obtain ⟨Mc, fc, mm⟩ := m_first (d := d + 14) (M := Mr) (T := U) (n := n) (by rw [rM 148 (by omega) (by omega)]; exact hU) (by rw [rM 138 (by omega) (by omega)]; exact t2) t1
      rcases mm with ⟨no, -⟩ | ⟨-, em⟩
      · rw [c2] at no
        exact absurd ok no
      · obtain ⟨Md, ed, fd, ad⟩ := m_remembers (d := d + 18) (M := Mc)
        have mc39 : Mc 139 = g := ((fc.1 139 (by decide) (by decide)).trans (rM 139 (by omega) (by omega))).trans hg
        have mc38 : ∀ f, f ≠ 19 → f ≠ 20 → Md 138 f = M 138 f := fun f q1 q2 => by rw [fd 138 (by decide), fc.2 f q1 q2, rM 138 (by omega) (by omega)]
        have mdb : ∀ b, b ≠ 138 → b ≠ 149 → b ≠ 142 → Md b = Mr b := fun b q1 q2 q3 => (fd b q3).trans (fc.1 b q1 q2)
        have md42 : agr 124 (Md 142) g := fun i i0 i1 => by rw [ad i i0 i1, mc39]
        have md48 : Md 148 = U := ((mdb 148 (by decide) (by decide) (by decide)).trans (rM 148 (by omega) (by omega))).trans hU
        have md39 : Md 139 = g := (fd 139 (by decide)).trans mc39
        rcases m_second (d := d + 7) (M := Md) (T := U) (n := n) (g := g) md48 ((mc38 17 (by decide) (by decide)).trans t2) t1 (by rw [c2]; exact ok) h2 md39 (by rw [mc38 2 (by decide) (by decide)]; exact h4.2.1) md42 with ⟨rs', -⟩ | ⟨-, Mf, fin, f5, g5, s5, w5⟩
        · rw [c5] at rs'
          exact absurd rs' rs
        · have fb : ∀ b, b < 138 ∨ 152 < b ∨ b = 140 ∨ b = 141 ∨ b = 148 → Mf b = Mr b := fun b hb => (f5.1 b (by omega) (by omega) (by omega)).trans (mdb b (by omega) (by omega) (by omega))
          have fM : ∀ b, (b = 0 ∨ (10 ≤ b ∧ b < 84) ∨ b = 85 ∨ (108 < b ∧ b < 138) ∨ 152 < b ∨ b = 140 ∨ b = 141 ∨ b = 148) → (b < slo (M 19 1) ∨ slo (M 19 1) + 8 < b) → Mf b = M b := fun b hb r => (fb b (by omega)).trans (rM b (by omega) r)
          have p : ∀ f, f ≠ 17 → f ≠ 18 → f ≠ 19 → f ≠ 20 → Mf 138 f = M 138 f := fun f q2 q3 q4 q5 => (f5.2 f q2 q3 q4 q5).trans (mc38 f q4 q5)
          refine ⟨zI (-105), Mr, Mf, ?_, ?_, (fM zSC (by omega) (by omega)).trans h1, WF_cg g5 h2, dgr_cgg g5 h2 (dgr_cg (fun b b0 b1 => fb b (by omega)) dr), HI_0 h4 ⟨fM 19 (by omega) (by omega), fun b q r => fM b (by omega) r⟩ ⟨p 2 (by decide) (by decide) (by decide) (by decide), fM 140 (by omega) (by omega)⟩, SV_cg h5 (fM 0 (by omega) (by omega)) (fun b b0 b1 => fM b (by omega) (by omega)) (p 4 (by decide) (by decide) (by decide) (by decide)) (fM 141 (by omega) (by omega)), ?_⟩
          · rw [start, ex, Cb_I, q_116_35, if_neg (by decide), en_67, q_67_0, if_pos hb1, b19, er, Cb_V, q_67_13, Cb_V, q_116_49]
          · rw [em, ed, Cb_V]
            exact fin
          · have x5 : Mf 84 5 = 0 := by rw [fb 84 (by omega), fr 84 (by omega)]; exact a5
            have x7 : Mf 84 7 = cps T n (rS T n g) := by rw [fb 84 (by omega), fr 84 (by omega)]; exact b7
            refine ⟨by rw [x5]; omega, by rw [x5, s5], fun i i0 i1 => ?_, by rw [x7, w5, c5, c6]⟩
            rw [x5] at i1
            omega
  · -- a fault
    generalize hMb : zwr (zwr M1 84 7 (fpos T n)) 84 5 0 = Mb
    have bM : ∀ b, b < 84 ∨ b = 85 ∨ 108 < b → Mb b = M b := fun b hb => by rw [← hMb, zwr_n (by omega), zwr_n (by omega)]; exact m1 b hb
    obtain ⟨Mc, fc, mm⟩ := m_first (d := d + 14) (M := Mb) (T := U) (n := n) (by rw [bM 148 (by omega)]; exact hU) (by rw [bM 138 (by omega)]; exact t2) t1
    rcases mm with ⟨-, em⟩ | ⟨no, -⟩
    · have fM : ∀ b, (b < 84 ∨ b = 85 ∨ (108 < b ∧ b < 138) ∨ 152 < b ∨ b = 139 ∨ b = 140 ∨ b = 141 ∨ b = 148) → (zwr (zwr Mc 138 18 (fpos U n)) 138 17 0) b = M b := fun b hb => by rw [zwr_n (by omega), zwr_n (by omega), fc.1 b (by omega) (by omega), bM b (by omega)]
      have p : ∀ f, f ≠ 17 → f ≠ 18 → f ≠ 19 → f ≠ 20 → (zwr (zwr Mc 138 18 (fpos U n)) 138 17 0) 138 f = M 138 f := fun f q2 q3 q4 q5 => by rw [zwr_nj q2, zwr_nj q3, fc.2 f q4 q5, bM 138 (by omega)]
      have x84 : (zwr (zwr Mc 138 18 (fpos U n)) 138 17 0) 84 = Mb 84 := by rw [zwr_n (by decide), zwr_n (by decide), fc.1 84 (by decide) (by decide)]
      have y17 : (zwr (zwr Mc 138 18 (fpos U n)) 138 17 0) 138 17 = 0 := zwr_at
      have y18 : (zwr (zwr Mc 138 18 (fpos U n)) 138 17 0) 138 18 = fpos T n := by rw [zwr_nj (by decide), zwr_at, c3]
      generalize hMf : zwr (zwr Mc 138 18 (fpos U n)) 138 17 0 = Mf at *
      have b5 : Mb 84 5 = 0 := by rw [← hMb, zwr_at]
      have b7 : Mb 84 7 = fpos T n := by rw [← hMb, zwr_nj (by decide), zwr_at]
      have c39 : Mf 139 = g := (fM 139 (by omega)).trans hg
      refine ⟨zI (-102), Mb, Mf, ?_, em, (fM zSC (by omega)).trans h1, by rw [c39]; exact h2, by rw [c39]; exact dgr_cg (fun b b0 b1 => fM b (by omega)) h3, HI_0 h4 ⟨fM 19 (by omega), fun b q _ => fM b (by omega)⟩ ⟨p 2 (by decide) (by decide) (by decide) (by decide), fM 140 (by omega)⟩, SV_cg h5 (fM 0 (by omega)) (fun b b0 b1 => fM b (by omega)) (p 4 (by decide) (by decide) (by decide) (by decide)) (fM 141 (by omega)), ?_⟩
      · rw [en_116, q_116_0, en_87, q_87_0, e1, Cb_I, q_87_4, bI_f ok, if_pos rfl, if_pos (Or.inl rfl), p1, hMb, Cb_I, q_116_7, if_neg (by decide)]
      · refine ⟨by rw [x84, b5]; omega, by rw [x84, b5, y17], fun i i0 i1 => ?_, by rw [x84, b7, y18]⟩
        rw [x84, b5] at i1
        omega
    · rw [c2] at no
      exact absurd no ok
end
