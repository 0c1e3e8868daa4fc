/-! a run that doesn't ask the script is the same beside any script -/
def zag (h g : ZH) : Prop := h.1 = g.1 ∧ ∀ a, a ≠ zSC → h.2 a = g.2 a
def zns (h : ZH) : Prop := h.2 zSC (-1) = 0
theorem zag_wr {h g : ZH} (ha : zag h g) (a : Nat) (i v : Int) : zag (h.1, zwr h.2 a i v) (g.1, zwr g.2 a i v) := ⟨ha.1, fun b hb => by
  funext j
  show zwr h.2 a i v b j = zwr g.2 a i v b j
  unfold zwr
  rw [ha.2 b hb]⟩
theorem zag_zr {h g : ZH} (ha : zag h g) (s : ZS) (a n : Nat) : zag (s, zzr h.2 a n) (s, zzr g.2 a n) := ⟨rfl, fun b hb => by
  funext j
  show zzr h.2 a n b j = zzr g.2 a n b j
  unfold zzr
  rw [ha.2 b hb]⟩
theorem zne_sc {h : ZH} (hi : zinv h) {a : Nat} (hk : zkn h.1 a < 99) : a ≠ zSC := by
  have h1 := zkn_lt hk
  have h2 := hi.2.2
  intro q
  unfold zSC at q
  omega
/-- what a step comes to beside another script -/
def zsm (r : Nat × List ZV × List ZV × ZH) (x : Option (Nat × List ZV × List ZV × ZH)) : Prop := ∃ g', x = some (r.1, r.2.1, r.2.2.1, g') ∧ zag r.2.2.2 g'
section
variable {o pc n j ci k kd : Nat} {ls st : List ZV} {h g : ZH} {r : Nat × List ZV × List ZV × ZH}
theorem zc_push {v : Option ZV} (ha : zag h g) (e : zpush pc ls st h v = some r) : zsm r (zpush pc ls st g v) := by
  obtain ⟨x, h1, rfl⟩ := Option.map_eq_some_iff.mp e
  exact ⟨g, by unfold zpush; rw [h1]; rfl, ha⟩
theorem zc_si (ha : zag h g) (e : zsi pc ls st h j = some r) : zsm r (zsi pc ls st g j) := by
  unfold zsi at e ⊢
  split at e
  · obtain ⟨x, h1, rfl⟩ := Option.map_eq_some_iff.mp e
    exact ⟨g, by rw [h1]; rfl, ha⟩
  · cases e
theorem zc_sa (ha : zag h g) (e : zsa pc ls st h j = some r) : zsm r (zsa pc ls st g j) := by
  unfold zsa at e ⊢
  split at e
  · obtain ⟨x, h1, rfl⟩ := Option.map_eq_some_iff.mp e
    exact ⟨g, by rw [h1]; rfl, ha⟩
  · cases e
theorem zc_sl (ha : zag h g) (e : zsl pc ls st h j = some r) : zsm r (zsl pc ls st g j) := by
  unfold zsl at e ⊢
  split at e
  · obtain ⟨x, h1, rfl⟩ := Option.map_eq_some_iff.mp e
    exact ⟨g, by rw [h1]; rfl, ha⟩
  · cases e
theorem zc_sd (ha : zag h g) (e : zsd pc ls st h j = some r) : zsm r (zsd pc ls st g j) := by
  unfold zsd at e ⊢
  split at e
  · obtain ⟨x, h1, rfl⟩ := Option.map_eq_some_iff.mp e
    exact ⟨g, by rw [h1]; rfl, ha⟩
  · cases e
theorem zc_bi {f : Int → Int → Option Int} (ha : zag h g) (e : zbi pc ls st h f = some r) : zsm r (zbi pc ls st g f) := by
  unfold zbi at e ⊢
  split at e
  · obtain ⟨x, h1, rfl⟩ := Option.map_eq_some_iff.mp e
    exact ⟨g, by rw [h1]; rfl, ha⟩
  · cases e
theorem zc_bl {f : Int64 → Int64 → ZV} (ha : zag h g) (e : zbl pc ls st h f = some r) : zsm r (zbl pc ls st g f) := by
  unfold zbl at e ⊢
  split at e
  · cases e; exact ⟨g, rfl, ha⟩
  · cases e
theorem zc_bd {f : UInt64 → UInt64 → Option ZV} (ha : zag h g) (e : zbd pc ls st h f = some r) : zsm r (zbd pc ls st g f) := by
  unfold zbd at e ⊢
  split at e
  · obtain ⟨x, h1, rfl⟩ := Option.map_eq_some_iff.mp e
    exact ⟨g, by rw [h1]; rfl, ha⟩
  · cases e
theorem zc_get (hi : zinv h) (hci : ci < 99) (ha : zag h g) (e : zget ci k pc ls st h = some r) : zsm r (zget ci k pc ls st g) := by
  unfold zget at e ⊢
  split at e
  · split at e
    · next hk =>
      rw [← ha.1, if_pos hk]
      split at e
      · next h2 =>
        rw [if_pos h2]
        split at e
        · cases e
        · next q hq => cases e; exact ⟨g, rfl, ha⟩
      · next h2 =>
        cases e
        rw [if_neg h2, ← ha.2 _ (zne_sc hi (by omega))]
        exact ⟨g, rfl, ha⟩
    · cases e
  · cases e
theorem zc_put (ha : zag h g) (e : zput ci k pc ls st h = some r) : zsm r (zput ci k pc ls st g) := by
  unfold zput at e ⊢
  split at e
  · split at e
    · next hk =>
      cases e
      rw [← ha.1, if_pos hk]
      exact ⟨_, rfl, by have := zag_wr ha; exact ⟨rfl, (this _ _ _).2⟩⟩
    · cases e
  · split at e
    · next hk =>
      cases e
      rw [← ha.1, if_pos hk]
      exact ⟨_, rfl, rfl, ha.2⟩
    · cases e
  · cases e
theorem zc_ald (hi : zinv h) (hkd : kd < 99) (ha : zag h g) (e : zald kd pc ls st h = some r) : zsm r (zald kd pc ls st g) := by
  unfold zald at e ⊢
  split at e
  · split at e
    · next hk =>
      cases e
      rw [← ha.1, if_pos hk, ← ha.2 _ (zne_sc hi (by omega))]
      exact ⟨g, rfl, ha⟩
    · cases e
  · cases e
theorem zc_ald0 (hi : zinv h) (hkd : kd < 99) (ha : zag h g) (e : zald kd pc ls st h = none) : zald kd pc ls st g = none := by
  unfold zald at e ⊢
  split at e
  · split at e
    · cases e
    · next hk =>
      rw [← ha.1, if_neg hk]
  · rfl
theorem zc_sld (hn : zns h) (e : zsld pc ls st h = some r) : False := by
  unfold zsld at e
  unfold zns at hn
  split at e
  · split at e
    · split at e
      · next hh => rw [hn] at hh; omega
      · cases e
    · cases e
  · cases e
theorem zc_ast {ok : Int → Bool} (ha : zag h g) (e : zast kd pc ls st h ok = some r) : zsm r (zast kd pc ls st g ok) := by
  unfold zast at e ⊢
  split at e
  · split at e
    · next hk =>
      cases e
      rw [← ha.1, if_pos hk]
      exact ⟨_, rfl, by have := zag_wr ha; exact ⟨rfl, (this _ _ _).2⟩⟩
    · cases e
  · cases e
theorem zc_aal (ha : zag h g) (e : zaal pc ls st h = some r) : zsm r (zaal pc ls st g) := by
  unfold zaal at e ⊢
  split at e
  · split at e
    · next hk =>
      rw [← ha.1, if_pos hk]
      split at e
      · cases e
      · next q hq => cases e; exact ⟨g, rfl, ha⟩
    · cases e
  · cases e
theorem zc_aas (ha : zag h g) (e : zaas pc ls st h = some r) : zsm r (zaas pc ls st g) := by
  unfold zaas at e ⊢
  split at e
  · split at e
    · next hk =>
      cases e
      rw [← ha.1, if_pos hk]
      exact ⟨_, rfl, rfl, ha.2⟩
    · cases e
  · cases e
theorem zc_alen (hn : zns h) (ha : zag h g) (e : zalen pc ls st h = some r) : zsm r (zalen pc ls st g) := by
  unfold zalen at e ⊢
  unfold zns at hn
  split at e
  · split at e
    · split at e
      · next hh => rw [hn] at hh; omega
      · cases e
    · next hs =>
      split at e
      · next hk =>
        cases e
        rw [← ha.1, if_neg hs, if_pos hk]
        exact ⟨g, rfl, ha⟩
      · cases e
  · cases e
theorem zc_new (ha : zag h g) (e : znew ci pc ls st h = some r) : zsm r (znew ci pc ls st g) := by
  unfold znew at e ⊢
  rw [← ha.1]
  split at e
  · cases e
  · next hk =>
    cases e
    rw [if_neg hk]
    exact ⟨_, rfl, zag_zr ha _ _ _⟩
theorem zc_nwa (ha : zag h g) (e : znwa kd pc ls st h = some r) : zsm r (znwa kd pc ls st g) := by
  unfold znwa at e ⊢
  split at e
  · split at e
    · next hk =>
      cases e
      rw [← ha.1, if_pos hk]
      exact ⟨_, rfl, zag_zr ha _ _ _⟩
    · cases e
  · cases e
theorem zc_mna (ha : zag h g) (e : zmna pc ls st h = some r) : zsm r (zmna pc ls st g) := by
  unfold zmna at e ⊢
  split at e
  · split at e
    · next hk =>
      cases e
      rw [← ha.1, if_pos hk]
      exact ⟨_, rfl, zag_zr ha _ _ _⟩
    · cases e
  · cases e
theorem zc_nat (ha : zag h g) (e : znat kd pc ls st h = some r) : zsm r (znat kd pc ls st g) := by
  unfold znat at e ⊢
  split at e
  · split at e
    · cases e; exact ⟨g, rfl, ha⟩
    · cases e
  · split at e
    · cases e; exact ⟨g, rfl, ha⟩
    · cases e
  · split at e
    · cases e; exact ⟨g, rfl, ha⟩
    · cases e
  · split at e
    · cases e; exact ⟨g, rfl, ha⟩
    · cases e
  · cases e
end
set_option maxHeartbeats 4000000 in
theorem zex_ag {o pc n : Nat} {i : Instr} {ls st : List ZV} {h g : ZH} {r : Nat × List ZV × List ZV × ZH} (hi : zinv h) (hn : zns h) (ha : zag h g) (e : zex o i pc n ls st h = some r) : zsm r (zex o i pc n ls st g) := by
  cases i
  case ldc x =>
    obtain ⟨v, h1, rfl⟩ := Option.map_eq_some_iff.mp e
    exact ⟨g, by show Option.map _ _ = _; rw [h1]; rfl, ha⟩
  case ldc_w x =>
    obtain ⟨v, h1, rfl⟩ := Option.map_eq_some_iff.mp e
    exact ⟨g, by show Option.map _ _ = _; rw [h1]; rfl, ha⟩
  case ldc2_w x =>
    unfold zex at e ⊢
    dsimp only at e ⊢
    split at e
    · next v hv => cases e; exact ⟨g, rfl, ha⟩
    · next hv =>
      obtain ⟨v, h1, rfl⟩ := Option.map_eq_some_iff.mp e
      rw [h1]
      exact ⟨g, rfl, ha⟩
  case dconst d =>
    unfold zex at e ⊢
    dsimp only at e ⊢
    split at e
    · next hh => cases e; rw [if_pos hh]; exact ⟨g, rfl, ha⟩
    · cases e
  case iload j => exact zc_push ha e
  case iload_n j => exact zc_push ha e
  case aload j => exact zc_push ha e
  case aload_n j => exact zc_push ha e
  case lload j => exact zc_push ha e
  case dload_n j => exact zc_push ha e
  case istore j => exact zc_si ha e
  case istore_n j => exact zc_si ha e
  case astore_n j => exact zc_sa ha e
  case lstore j => exact zc_sl ha e
  case dstore_n j => exact zc_sd ha e
  case iinc j c =>
    unfold zex at e ⊢
    dsimp only at e ⊢
    split at e
    · next x hx =>
      obtain ⟨l, h1, rfl⟩ := Option.map_eq_some_iff.mp e
      rw [h1]
      exact ⟨g, rfl, ha⟩
    · cases e
  case getfield x =>
    obtain ⟨q, h1, h2⟩ := Option.bind_eq_some_iff.mp e
    have := zc_get hi (by have := (zFl_ok h1).1; omega) ha h2
    unfold zex
    dsimp only
    rw [h1]
    exact this
  case putfield x =>
    obtain ⟨q, h1, h2⟩ := Option.bind_eq_some_iff.mp e
    have := zc_put ha h2
    unfold zex
    dsimp only
    rw [h1]
    exact this
  case iaload =>
    unfold zex at e ⊢
    dsimp only at e ⊢
    split at e
    · next hh =>
      cases e
      obtain ⟨g', q1, q2⟩ := zc_ald hi (by decide) ha hh
      rw [q1]
      exact ⟨g', rfl, q2⟩
    · exact absurd (zc_sld hn e) id
  case caload => exact zc_ald hi (by decide) ha e
  case baload => exact zc_ald hi (by decide) ha e
  case aaload => exact zc_aal ha e
  case iastore => exact zc_ast ha e
  case castore => exact zc_ast ha e
  case bastore => exact zc_ast ha e
  case aastore => exact zc_aas ha e
  case arraylength => exact zc_alen hn ha e
  case dup =>
    unfold zex at e ⊢
    dsimp only at e ⊢
    split at e
    · split at e
      · next hh => cases e; rw [if_pos hh]; exact ⟨g, rfl, ha⟩
      · cases e
    · cases e
  case dup2 =>
    unfold zex at e ⊢
    dsimp only at e ⊢
    split at e
    · split at e
      · next hh => cases e; rw [if_pos hh]; exact ⟨g, rfl, ha⟩
      · cases e
    · cases e
  case pop =>
    unfold zex at e ⊢
    dsimp only at e ⊢
    split at e
    · split at e
      · next hh => cases e; rw [if_pos hh]; exact ⟨g, rfl, ha⟩
      · cases e
    · cases e
  case iadd => exact zc_bi ha e
  case isub => exact zc_bi ha e
  case imul => exact zc_bi ha e
  case idiv => exact zc_bi ha e
  case irem => exact zc_bi ha e
  case iand => exact zc_bi ha e
  case ior => exact zc_bi ha e
  case ixor => exact zc_bi ha e
  case ishl => exact zc_bi ha e
  case ishr => exact zc_bi ha e
  case iushr => exact zc_bi ha e
  case ladd => exact zc_bl ha e
  case lor => exact zc_bl ha e
  case lcmp => exact zc_bl ha e
  case dsub => exact zc_bd ha e
  case dmul => exact zc_bd ha e
  case ddiv => exact zc_bd ha e
  case dcmp c => exact zc_bd ha e
  case i2c =>
    unfold zex at e ⊢
    dsimp only at e ⊢
    split at e
    · split at e
      · next hh => cases e; rw [if_pos hh]; exact ⟨g, rfl, ha⟩
      · cases e
    · cases e
  case tableswitch d lo hi' offs =>
    unfold zex at e ⊢
    dsimp only at e ⊢
    split at e
    · split at e
      · next hh => cases e; rw [if_pos hh]; exact ⟨g, rfl, ha⟩
      · next hh =>
        obtain ⟨l, h1, rfl⟩ := Option.map_eq_some_iff.mp e
        rw [if_neg hh, h1]
        exact ⟨g, rfl, ha⟩
    · cases e
  case new x =>
    obtain ⟨q, h1, h2⟩ := Option.bind_eq_some_iff.mp e
    have := zc_new ha h2
    unfold zex
    dsimp only
    rw [h1]
    exact this
  case newarray t => exact zc_nwa ha e
  case anewarray x =>
    unfold zex at e ⊢
    dsimp only at e ⊢
    split at e
    · next hh => rw [if_pos hh]; exact zc_nwa ha e
    · cases e
  case multianewarray x d =>
    unfold zex at e ⊢
    dsimp only at e ⊢
    split at e
    · next hh => rw [if_pos hh]; exact zc_mna ha e
    · cases e
  case invokespecial x =>
    unfold zex at e ⊢
    dsimp only at e ⊢
    split at e
    · next hh =>
      rw [if_pos hh]
      split at e
      · cases e; exact ⟨g, rfl, ha⟩
      · cases e
    · cases e
  case invokestatic x =>
    obtain ⟨q, h1, h2⟩ := Option.bind_eq_some_iff.mp e
    unfold zex
    dsimp only
    rw [h1]
    split at h2
    · next hh =>
      show zsm r (if _ then _ else _)
      rw [if_pos hh]
      exact zc_nat ha h2
    · cases h2
  all_goals first
    | (cases e; exact ⟨g, rfl, ha⟩)
    | (unfold zex at e ⊢; dsimp only at e ⊢; split at e <;> first | (cases e; exact ⟨g, rfl, ha⟩) | cases e)
    | cases e
/-- a method's answer beside another script -/
def zcag (cal cal' : Nat → List ZV → ZH → ZO) : Prop := ∀ k as h g v h1, zoks as → zinv h → zns h → zag h g → cal k as h = some (v, h1) → ∃ g1, cal' k as g = some (v, g1) ∧ zag h1 g1
theorem zns_le {h h1 : ZH} (hn : zns h) (hl : zle h h1) : zns h1 := by
  unfold zns at *
  rw [hl.2.2, hn]
theorem zrn_ag {cal cal' : Nat → List ZV → ZH → ZO} (hkp : zkeep cal) (hc : zcag cal cal') {k : Nat} : ∀ (n pc : Nat) (ls st : List ZV) (h g : ZH) (v : Option ZV) (h1 : ZH), zoks ls → zoks st → zinv h → zns h → zag h g → zrn cal k n pc ls st h = some (v, h1) → ∃ g1, zrn cal' k n pc ls st g = some (v, g1) ∧ zag h1 g1
  | 0, _, _, _, _, _, _, _, _, _, _, _, _, e => by cases e
  | n + 1, pc, ls, st, h, g, v, h1, hl, hs, hi, hn, ha, e => by
    have e : zgo cal k (zrn cal k n) pc ls st h = some (v, h1) := e
    show ∃ g1, zgo cal' k (zrn cal' k n) pc ls st g = some (v, g1) ∧ zag h1 g1
    unfold zgo at e ⊢
    split at e
    · cases e
    · next len i hf =>
      split at e
      · next v' hr => cases e; exact ⟨g, rfl, ha⟩
      · next hr =>
        split at e
        · next k' kd hcal =>
          split at e
          · next hcond =>
            have e9 : zrcv k' kd (List.take (znA k') st).reverse g = zrcv k' kd (List.take (znA k') st).reverse h := by
              unfold zrcv
              rw [ha.1]
            rw [if_pos ⟨hcond.1, hcond.2.1, by rw [e9]; exact hcond.2.2⟩]
            obtain ⟨⟨v', h'⟩, q1, q2⟩ := Option.bind_eq_some_iff.mp e
            have q2 : zrn cal k n (pc + len) ls (v'.toList ++ st.drop (znA k')) h' = some (v, h1) := q2
            obtain ⟨a1, a2, a3⟩ := hkp _ _ _ _ _ (zoks_take hs _) hi q1
            obtain ⟨g', r1, r2⟩ := hc _ _ _ g _ _ (zoks_take hs _) hi hn ha q1
            rw [r1]
            exact zrn_ag hkp hc n _ _ _ _ g' _ _ hl (zoks_v a1 (zoks_drop hs _)) a2 (zns_le hn a3) r2 q2
          · cases e
        · next hcal =>
          obtain ⟨r, q1, q2⟩ := Option.bind_eq_some_iff.mp e
          obtain ⟨a1, a2, a3, a4⟩ := zex_inv (zft_stat hf) hl hs hi q1
          obtain ⟨g', r1, r2⟩ := zex_ag hi hn ha q1
          rw [r1]
          exact zrn_ag hkp hc n _ _ _ _ g' _ _ a1 a2 a3 (zns_le hn a4) r2 q2
theorem zevl_ag : ∀ d, zcag (zevl d) (zevl d)
  | 0 => fun _ _ _ _ _ _ _ _ _ _ e => by cases e
  | d + 1 => fun k as h g v h1 hs hi hn ha e => by
    unfold zevl at e ⊢
    split at e
    · next hh =>
      rw [if_pos hh]
      obtain ⟨n, q⟩ := zrun_some e
      obtain ⟨g1, r1, r2⟩ := zrn_ag (zevl_keep d) (zevl_ag d) n _ _ _ _ g _ _ (zoks_ent hs) (fun v hv => by cases hv) hi hn ha q
      exact ⟨g1, zrun_of r1, r2⟩
    · cases e
