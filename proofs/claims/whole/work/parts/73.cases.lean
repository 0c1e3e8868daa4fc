/-! the law: each command -/
theorem zret_rt {k : Nat} {i : Instr} {st : List ZV} {v : ZV} (e : zret k i st = some (some v)) : (∃ x, v = zI x) ∨ (zrty k = some .long ∧ ∃ x, v = zL x) := by
  unfold zret at e
  split at e
  · split at e
    · split at e
      · cases e; exact Or.inl ⟨_, rfl⟩
      · cases e
    · cases e
  · split at e
    · split at e
      · next h => cases e; exact Or.inr ⟨h, _, rfl⟩
      · cases e
    · cases e
  · split at e
    · split at e
      · cases e
      · cases e
    · cases e
  · cases e
theorem zrn_rt {cal : Nat → List ZV → ZH → ZO} {k : Nat} : ∀ (n pc : Nat) (ls st : List ZV) (h : ZH) (v : ZV) (h1 : ZH), zrn cal k n pc ls st h = some (some v, h1) → (∃ x, v = zI x) ∨ (zrty k = some .long ∧ ∃ x, v = zL x)
  | 0, _, _, _, _, _, _, e => by cases e
  | n + 1, pc, ls, st, h, v, h1, e => by
    have e : zgo cal k (zrn cal k n) pc ls st h = some (some v, h1) := e
    unfold zgo at e
    split at e
    · cases e
    · split at e
      · next hv =>
        cases e
        exact zret_rt hv
      · split at e
        · split at e
          · obtain ⟨r, -, q⟩ := Option.bind_eq_some_iff.mp e
            exact zrn_rt n _ _ _ _ _ _ q
          · cases e
        · obtain ⟨r, -, q⟩ := Option.bind_eq_some_iff.mp e
          exact zrn_rt n _ _ _ _ _ _ q
theorem E_rt {d k : Nat} {as : List ZV} {M M1 : ZM} {v : ZV} (e : E d k as M = Rt (some v) M1) : (∃ x, v = zI x) ∨ (zrty k = some .long ∧ ∃ x, v = zL x) := by
  cases d with
  | zero => cases e
  | succ d =>
    have e : (if (as.flatMap (fun v => if zct v = 2 then [v, zU] else [v])).length ≤ zmax k then zrun (zevl d) k 0 (zent (zmax k) as) [] (SH, M) else none) = some (some v, (SH, M1)) := e
    split at e
    · obtain ⟨n, hn⟩ := zrun_some e
      exact zrn_rt n _ _ _ _ _ _ hn
    · cases e
/-- the command's number and its values can be read -/
def lwi (S : Int → Int) (i : Int) : Prop := 0 ≤ i ∧ i + 5 ≤ S (-1) - 1 ∧ S (-1) ≤ 3000
section
variable {S : Int → Int} {i : Int} {M : ZM}
theorem s_arg {d p : Nat} {st : List ZV} (c : Int) (f1 : zft 255 p = some (1, .aload_n 0)) (f2 : zft 255 (p + 1) = some (1, .iload_n 3)) (f3 : zft 255 (p + 2) = some (1, .iconst c)) (f4 : zft 255 (p + 3) = some (1, .iadd)) (f5 : zft 255 (p + 4) = some (1, .iaload)) (hc : 1 ≤ c ∧ c ≤ 4) (hi : lwi S i) (hs : M zSC = S) : Q d 255 p [zR zSC, zR 0, zR 138, zI i] st M = Q d 255 (p + 5) [zR zSC, zR 0, zR 138, zI i] (zI (S (i + c)) :: st) M := by
  unfold lwi at hi
  refine Eq.trans (s_aloadn f1 rfl) ?_
  refine Eq.trans (s_iloadn f2 rfl) ?_
  refine Eq.trans (s_iconst f3) ?_
  refine Eq.trans (s_iadd f4) ?_
  rw [zw_id (by omega)]
  refine Eq.trans (s_sld f5 (by rw [hs]; omega)) ?_
  rw [hs]
theorem law_case {P P2 P3 kx km : Nat} {off : Int} {as : List ZV} (hr : RL S M) (hz : zinv (SH, M)) (ok : zoks as) (u : uok 60 kx km as S M) (ty : zrty kx = some .int) (h1 : ∀ M, M zSC = S → Q 60 255 P [zR zSC, zR 0, zR 138, zI i] [] M = Cb (E 60 kx (zR 0 :: as) M) (fun v h => zrun (zevl 60) 255 P2 [zR zSC, zR 0, zR 138, zI i] (v.toList ++ []) h)) (h2 : ∀ M v, M zSC = S → Q 60 255 P2 [zR zSC, zR 0, zR 138, zI i] [zI v] M = Cb (E 60 km (zR 138 :: as) M) (fun v' h => zrun (zevl 60) 255 P3 [zR zSC, zR 0, zR 138, zI i] (v'.toList ++ [zI v]) h)) (h3 : zft 255 P3 = some (3, .if_icmp .eq off)) (h4 : (P3 : Int) + off = ((1166 : Nat) : Int)) : ∃ M2, Q 60 255 P [zR zSC, zR 0, zR 138, zI i] [] M = Q 60 255 1166 [zR zSC, zR 0, zR 138, zI i] [] M2 ∧ RL S M2 ∧ zinv (SH, M2) := by
  obtain ⟨v, M1, M2, e1, e2, r2⟩ := u
  obtain ⟨x, rfl⟩ := (E_rt e1).resolve_right (fun z => by rw [ty] at z; cases z.1)
  have ok0 : zoks (zR 0 :: as) := fun v hv => by
    rcases List.mem_cons.mp hv with rfl | hv
    · trivial
    · exact ok v hv
  have ok1 : zoks (zR 138 :: as) := fun v hv => by
    rcases List.mem_cons.mp hv with rfl | hv
    · trivial
    · exact ok v hv
  obtain ⟨-, z1, l1⟩ := zevl_keep 60 kx _ (SH, M) _ (SH, M1) ok0 hz e1
  obtain ⟨-, z2, l2⟩ := zevl_keep 60 km _ (SH, M1) _ (SH, M2) ok1 z1 e2
  have s1 : M1 zSC = S := by rw [← hr.1]; exact funext l1.2.2
  refine ⟨M2, ?_, r2, z2⟩
  rw [h1 M hr.1, e1]
  show Q 60 255 P2 [zR zSC, zR 0, zR 138, zI i] [zI x] M1 = _
  rw [h2 M1 x s1, e2]
  show Q 60 255 P3 [zR zSC, zR 0, zR 138, zI i] [zI x, zI x] M2 = _
  rw [s_icmp (P := x = x) 1166 h3 h4 rfl, if_pos rfl]
theorem ok_i {M : ZM} (hz : zinv (SH, M)) (hs : M zSC = S) (j : Int) : zok (zI (S j)) := by
  rw [← hs]
  exact hz.2.1 zSC j
theorem law_0 (hr : RL S M) (hz : zinv (SH, M)) (hi : lwi S i) : ∃ M2, Q 60 255 212 [zR zSC, zR 0, zR 138, zI i] [] M = Q 60 255 1166 [zR zSC, zR 0, zR 138, zI i] [] M2 ∧ RL S M2 ∧ zinv (SH, M2) := by
  refine law_case (P2 := 236) (P3 := 260) (kx := 104) (km := 174) (as := [zI (S (i + 1)), zI (S (i + 2)), zI (S (i + 3)), zI (S (i + 4))]) hr hz ?_ (o_addRoom (d := 48) hr) t_104 (fun M hs => ?_) (fun M v hs => ?_) f_255_260 (by decide)
  · intro v hv
    simp only [List.mem_cons, List.not_mem_nil, or_false] at hv
    rcases hv with rfl | rfl | rfl | rfl <;> exact ok_i hz hr.1 _
  · refine Eq.trans (s_aloadn f_255_212 rfl) ?_
    refine Eq.trans (s_arg 1 f_255_213 f_255_214 f_255_215 f_255_216 f_255_217 (by decide) hi hs) ?_
    refine Eq.trans (s_arg 2 f_255_218 f_255_219 f_255_220 f_255_221 f_255_222 (by decide) hi hs) ?_
    refine Eq.trans (s_arg 3 f_255_223 f_255_224 f_255_225 f_255_226 f_255_227 (by decide) hi hs) ?_
    refine Eq.trans (s_arg 4 f_255_228 f_255_229 f_255_230 f_255_231 f_255_232 (by decide) hi hs) ?_
    exact s_call [zR 0, zI (S (i + 1)), zI (S (i + 2)), zI (S (i + 3)), zI (S (i + 4))] [] f_255_233 rfl c_255_13 rfl rfl (Nat.le_of_ble_eq_true rfl) (by show (zkn SH 0 == zown 104) = true; rw [show zkn SH 0 = 9 from kn_0]; rfl)
  · refine Eq.trans (s_aloadn f_255_236 rfl) ?_
    refine Eq.trans (s_arg 1 f_255_237 f_255_238 f_255_239 f_255_240 f_255_241 (by decide) hi hs) ?_
    refine Eq.trans (s_arg 2 f_255_242 f_255_243 f_255_244 f_255_245 f_255_246 (by decide) hi hs) ?_
    refine Eq.trans (s_arg 3 f_255_247 f_255_248 f_255_249 f_255_250 f_255_251 (by decide) hi hs) ?_
    refine Eq.trans (s_arg 4 f_255_252 f_255_253 f_255_254 f_255_255 f_255_256 (by decide) hi hs) ?_
    exact s_call [zR 138, zI (S (i + 1)), zI (S (i + 2)), zI (S (i + 3)), zI (S (i + 4))] [zI v] f_255_257 rfl c_255_17 rfl rfl (Nat.le_of_ble_eq_true rfl) (by show (zkn SH 138 == zown 174) = true; rw [show zkn SH 138 = 10 from kn_138]; rfl)
theorem law_1 (hr : RL S M) (hz : zinv (SH, M)) (hi : lwi S i) : ∃ M2, Q 60 255 265 [zR zSC, zR 0, zR 138, zI i] [] M = Q 60 255 1166 [zR zSC, zR 0, zR 138, zI i] [] M2 ∧ RL S M2 ∧ zinv (SH, M2) := by
  refine law_case (P2 := 279) (P3 := 293) (kx := 105) (km := 175) (as := [zI (S (i + 1)), zI (S (i + 2))]) hr hz ?_ (o_addCorridor (d := 48) hr) t_105 (fun M hs => ?_) (fun M v hs => ?_) f_255_293 (by decide)
  · intro v hv
    simp only [List.mem_cons, List.not_mem_nil, or_false] at hv
    rcases hv with rfl | rfl <;> exact ok_i hz hr.1 _
  · refine Eq.trans (s_aloadn f_255_265 rfl) ?_
    refine Eq.trans (s_arg 1 f_255_266 f_255_267 f_255_268 f_255_269 f_255_270 (by decide) hi hs) ?_
    refine Eq.trans (s_arg 2 f_255_271 f_255_272 f_255_273 f_255_274 f_255_275 (by decide) hi hs) ?_
    exact s_call [zR 0, zI (S (i + 1)), zI (S (i + 2))] [] f_255_276 rfl c_255_18 rfl rfl (Nat.le_of_ble_eq_true rfl) (by show (zkn SH 0 == zown 105) = true; rw [show zkn SH 0 = 9 from kn_0]; rfl)
  · refine Eq.trans (s_aloadn f_255_279 rfl) ?_
    refine Eq.trans (s_arg 1 f_255_280 f_255_281 f_255_282 f_255_283 f_255_284 (by decide) hi hs) ?_
    refine Eq.trans (s_arg 2 f_255_285 f_255_286 f_255_287 f_255_288 f_255_289 (by decide) hi hs) ?_
    exact s_call [zR 138, zI (S (i + 1)), zI (S (i + 2))] [zI v] f_255_290 rfl c_255_22 rfl rfl (Nat.le_of_ble_eq_true rfl) (by show (zkn SH 138 == zown 175) = true; rw [show zkn SH 138 = 10 from kn_138]; rfl)
theorem law_2 (hr : RL S M) (hz : zinv (SH, M)) (hi : lwi S i) : ∃ M2, Q 60 255 298 [zR zSC, zR 0, zR 138, zI i] [] M = Q 60 255 1166 [zR zSC, zR 0, zR 138, zI i] [] M2 ∧ RL S M2 ∧ zinv (SH, M2) := by
  refine law_case (P2 := 312) (P3 := 326) (kx := 106) (km := 176) (as := [zI (S (i + 1)), zI (S (i + 2))]) hr hz ?_ (o_setLock (d := 48) hr) t_106 (fun M hs => ?_) (fun M v hs => ?_) f_255_326 (by decide)
  · intro v hv
    simp only [List.mem_cons, List.not_mem_nil, or_false] at hv
    rcases hv with rfl | rfl <;> exact ok_i hz hr.1 _
  · refine Eq.trans (s_aloadn f_255_298 rfl) ?_
    refine Eq.trans (s_arg 1 f_255_299 f_255_300 f_255_301 f_255_302 f_255_303 (by decide) hi hs) ?_
    refine Eq.trans (s_arg 2 f_255_304 f_255_305 f_255_306 f_255_307 f_255_308 (by decide) hi hs) ?_
    exact s_call [zR 0, zI (S (i + 1)), zI (S (i + 2))] [] f_255_309 rfl c_255_23 rfl rfl (Nat.le_of_ble_eq_true rfl) (by show (zkn SH 0 == zown 106) = true; rw [show zkn SH 0 = 9 from kn_0]; rfl)
  · refine Eq.trans (s_aloadn f_255_312 rfl) ?_
    refine Eq.trans (s_arg 1 f_255_313 f_255_314 f_255_315 f_255_316 f_255_317 (by decide) hi hs) ?_
    refine Eq.trans (s_arg 2 f_255_318 f_255_319 f_255_320 f_255_321 f_255_322 (by decide) hi hs) ?_
    exact s_call [zR 138, zI (S (i + 1)), zI (S (i + 2))] [zI v] f_255_323 rfl c_255_26 rfl rfl (Nat.le_of_ble_eq_true rfl) (by show (zkn SH 138 == zown 176) = true; rw [show zkn SH 138 = 10 from kn_138]; rfl)
theorem law_3 (hr : RL S M) (hz : zinv (SH, M)) (hi : lwi S i) : ∃ M2, Q 60 255 331 [zR zSC, zR 0, zR 138, zI i] [] M = Q 60 255 1166 [zR zSC, zR 0, zR 138, zI i] [] M2 ∧ RL S M2 ∧ zinv (SH, M2) := by
  refine law_case (P2 := 345) (P3 := 359) (kx := 107) (km := 177) (as := [zI (S (i + 1)), zI (S (i + 2))]) hr hz ?_ (o_setKey (d := 48) hr) t_107 (fun M hs => ?_) (fun M v hs => ?_) f_255_359 (by decide)
  · intro v hv
    simp only [List.mem_cons, List.not_mem_nil, or_false] at hv
    rcases hv with rfl | rfl <;> exact ok_i hz hr.1 _
  · refine Eq.trans (s_aloadn f_255_331 rfl) ?_
    refine Eq.trans (s_arg 1 f_255_332 f_255_333 f_255_334 f_255_335 f_255_336 (by decide) hi hs) ?_
    refine Eq.trans (s_arg 2 f_255_337 f_255_338 f_255_339 f_255_340 f_255_341 (by decide) hi hs) ?_
    exact s_call [zR 0, zI (S (i + 1)), zI (S (i + 2))] [] f_255_342 rfl c_255_27 rfl rfl (Nat.le_of_ble_eq_true rfl) (by show (zkn SH 0 == zown 107) = true; rw [show zkn SH 0 = 9 from kn_0]; rfl)
  · refine Eq.trans (s_aloadn f_255_345 rfl) ?_
    refine Eq.trans (s_arg 1 f_255_346 f_255_347 f_255_348 f_255_349 f_255_350 (by decide) hi hs) ?_
    refine Eq.trans (s_arg 2 f_255_351 f_255_352 f_255_353 f_255_354 f_255_355 (by decide) hi hs) ?_
    exact s_call [zR 138, zI (S (i + 1)), zI (S (i + 2))] [zI v] f_255_356 rfl c_255_30 rfl rfl (Nat.le_of_ble_eq_true rfl) (by show (zkn SH 138 == zown 177) = true; rw [show zkn SH 138 = 10 from kn_138]; rfl)
theorem law_4 (hr : RL S M) (hz : zinv (SH, M)) (hi : lwi S i) : ∃ M2, Q 60 255 364 [zR zSC, zR 0, zR 138, zI i] [] M = Q 60 255 1166 [zR zSC, zR 0, zR 138, zI i] [] M2 ∧ RL S M2 ∧ zinv (SH, M2) := by
  refine law_case (P2 := 373) (P3 := 382) (kx := 108) (km := 178) (as := [zI (S (i + 1))]) hr hz ?_ (o_setEntrance (d := 48) hr) t_108 (fun M hs => ?_) (fun M v hs => ?_) f_255_382 (by decide)
  · intro v hv
    simp only [List.mem_cons, List.not_mem_nil, or_false] at hv
    rcases hv with rfl <;> exact ok_i hz hr.1 _
  · refine Eq.trans (s_aloadn f_255_364 rfl) ?_
    refine Eq.trans (s_arg 1 f_255_365 f_255_366 f_255_367 f_255_368 f_255_369 (by decide) hi hs) ?_
    exact s_call [zR 0, zI (S (i + 1))] [] f_255_370 rfl c_255_31 rfl rfl (Nat.le_of_ble_eq_true rfl) (by show (zkn SH 0 == zown 108) = true; rw [show zkn SH 0 = 9 from kn_0]; rfl)
  · refine Eq.trans (s_aloadn f_255_373 rfl) ?_
    refine Eq.trans (s_arg 1 f_255_374 f_255_375 f_255_376 f_255_377 f_255_378 (by decide) hi hs) ?_
    exact s_call [zR 138, zI (S (i + 1))] [zI v] f_255_379 rfl c_255_35 rfl rfl (Nat.le_of_ble_eq_true rfl) (by show (zkn SH 138 == zown 178) = true; rw [show zkn SH 138 = 10 from kn_138]; rfl)
theorem law_5 (hr : RL S M) (hz : zinv (SH, M)) (hi : lwi S i) : ∃ M2, Q 60 255 387 [zR zSC, zR 0, zR 138, zI i] [] M = Q 60 255 1166 [zR zSC, zR 0, zR 138, zI i] [] M2 ∧ RL S M2 ∧ zinv (SH, M2) := by
  refine law_case (P2 := 396) (P3 := 405) (kx := 109) (km := 179) (as := [zI (S (i + 1))]) hr hz ?_ (o_removeRoom (d := 48) hr) t_109 (fun M hs => ?_) (fun M v hs => ?_) f_255_405 (by decide)
  · intro v hv
    simp only [List.mem_cons, List.not_mem_nil, or_false] at hv
    rcases hv with rfl <;> exact ok_i hz hr.1 _
  · refine Eq.trans (s_aloadn f_255_387 rfl) ?_
    refine Eq.trans (s_arg 1 f_255_388 f_255_389 f_255_390 f_255_391 f_255_392 (by decide) hi hs) ?_
    exact s_call [zR 0, zI (S (i + 1))] [] f_255_393 rfl c_255_36 rfl rfl (Nat.le_of_ble_eq_true rfl) (by show (zkn SH 0 == zown 109) = true; rw [show zkn SH 0 = 9 from kn_0]; rfl)
  · refine Eq.trans (s_aloadn f_255_396 rfl) ?_
    refine Eq.trans (s_arg 1 f_255_397 f_255_398 f_255_399 f_255_400 f_255_401 (by decide) hi hs) ?_
    exact s_call [zR 138, zI (S (i + 1))] [zI v] f_255_402 rfl c_255_39 rfl rfl (Nat.le_of_ble_eq_true rfl) (by show (zkn SH 138 == zown 179) = true; rw [show zkn SH 138 = 10 from kn_138]; rfl)
theorem law_6 (hr : RL S M) (hz : zinv (SH, M)) (hi : lwi S i) : ∃ M2, Q 60 255 410 [zR zSC, zR 0, zR 138, zI i] [] M = Q 60 255 1166 [zR zSC, zR 0, zR 138, zI i] [] M2 ∧ RL S M2 ∧ zinv (SH, M2) := by
  refine law_case (P2 := 419) (P3 := 428) (kx := 110) (km := 180) (as := [zI (S (i + 1))]) hr hz ?_ (o_removeCorridor (d := 48) hr) t_110 (fun M hs => ?_) (fun M v hs => ?_) f_255_428 (by decide)
  · intro v hv
    simp only [List.mem_cons, List.not_mem_nil, or_false] at hv
    rcases hv with rfl <;> exact ok_i hz hr.1 _
  · refine Eq.trans (s_aloadn f_255_410 rfl) ?_
    refine Eq.trans (s_arg 1 f_255_411 f_255_412 f_255_413 f_255_414 f_255_415 (by decide) hi hs) ?_
    exact s_call [zR 0, zI (S (i + 1))] [] f_255_416 rfl c_255_40 rfl rfl (Nat.le_of_ble_eq_true rfl) (by show (zkn SH 0 == zown 110) = true; rw [show zkn SH 0 = 9 from kn_0]; rfl)
  · refine Eq.trans (s_aloadn f_255_419 rfl) ?_
    refine Eq.trans (s_arg 1 f_255_420 f_255_421 f_255_422 f_255_423 f_255_424 (by decide) hi hs) ?_
    exact s_call [zR 138, zI (S (i + 1))] [zI v] f_255_425 rfl c_255_43 rfl rfl (Nat.le_of_ble_eq_true rfl) (by show (zkn SH 138 == zown 180) = true; rw [show zkn SH 138 = 10 from kn_138]; rfl)
theorem law_7 (hr : RL S M) (hz : zinv (SH, M)) (hi : lwi S i) : ∃ M2, Q 60 255 433 [zR zSC, zR 0, zR 138, zI i] [] M = Q 60 255 1166 [zR zSC, zR 0, zR 138, zI i] [] M2 ∧ RL S M2 ∧ zinv (SH, M2) := by
  refine law_case (P2 := 447) (P3 := 461) (kx := 111) (km := 185) (as := [zI (S (i + 1)), zI (S (i + 2))]) hr hz ?_ (o_build (d := 48) hr) t_111 (fun M hs => ?_) (fun M v hs => ?_) f_255_461 (by decide)
  · intro v hv
    simp only [List.mem_cons, List.not_mem_nil, or_false] at hv
    rcases hv with rfl | rfl <;> exact ok_i hz hr.1 _
  · refine Eq.trans (s_aloadn f_255_433 rfl) ?_
    refine Eq.trans (s_arg 1 f_255_434 f_255_435 f_255_436 f_255_437 f_255_438 (by decide) hi hs) ?_
    refine Eq.trans (s_arg 2 f_255_439 f_255_440 f_255_441 f_255_442 f_255_443 (by decide) hi hs) ?_
    exact s_call [zR 0, zI (S (i + 1)), zI (S (i + 2))] [] f_255_444 rfl c_255_44 rfl rfl (Nat.le_of_ble_eq_true rfl) (by show (zkn SH 0 == zown 111) = true; rw [show zkn SH 0 = 9 from kn_0]; rfl)
  · refine Eq.trans (s_aloadn f_255_447 rfl) ?_
    refine Eq.trans (s_arg 1 f_255_448 f_255_449 f_255_450 f_255_451 f_255_452 (by decide) hi hs) ?_
    refine Eq.trans (s_arg 2 f_255_453 f_255_454 f_255_455 f_255_456 f_255_457 (by decide) hi hs) ?_
    exact s_call [zR 138, zI (S (i + 1)), zI (S (i + 2))] [zI v] f_255_458 rfl c_255_47 rfl rfl (Nat.le_of_ble_eq_true rfl) (by show (zkn SH 138 == zown 185) = true; rw [show zkn SH 138 = 10 from kn_138]; rfl)
theorem law_8 (hr : RL S M) (hz : zinv (SH, M)) (hi : lwi S i) : ∃ M2, Q 60 255 466 [zR zSC, zR 0, zR 138, zI i] [] M = Q 60 255 1166 [zR zSC, zR 0, zR 138, zI i] [] M2 ∧ RL S M2 ∧ zinv (SH, M2) := by
  refine law_case (P2 := 470) (P3 := 474) (kx := 112) (km := 186) (as := []) hr hz ?_ (o_addLoop (d := 48) hr) t_112 (fun M hs => ?_) (fun M v hs => ?_) f_255_474 (by decide)
  · intro v hv
    cases hv
  · refine Eq.trans (s_aloadn f_255_466 rfl) ?_
    exact s_call [zR 0] [] f_255_467 rfl c_255_48 rfl rfl (Nat.le_of_ble_eq_true rfl) (by show (zkn SH 0 == zown 112) = true; rw [show zkn SH 0 = 9 from kn_0]; rfl)
  · refine Eq.trans (s_aloadn f_255_470 rfl) ?_
    exact s_call [zR 138] [zI v] f_255_471 rfl c_255_52 rfl rfl (Nat.le_of_ble_eq_true rfl) (by show (zkn SH 138 == zown 186) = true; rw [show zkn SH 138 = 10 from kn_138]; rfl)
theorem law_9 (hr : RL S M) (hz : zinv (SH, M)) (hi : lwi S i) : ∃ M2, Q 60 255 479 [zR zSC, zR 0, zR 138, zI i] [] M = Q 60 255 1166 [zR zSC, zR 0, zR 138, zI i] [] M2 ∧ RL S M2 ∧ zinv (SH, M2) := by
  refine law_case (P2 := 483) (P3 := 487) (kx := 113) (km := 197) (as := []) hr hz ?_ (o_placeLock (d := 48) hr) t_113 (fun M hs => ?_) (fun M v hs => ?_) f_255_487 (by decide)
  · intro v hv
    cases hv
  · refine Eq.trans (s_aloadn f_255_479 rfl) ?_
    exact s_call [zR 0] [] f_255_480 rfl c_255_53 rfl rfl (Nat.le_of_ble_eq_true rfl) (by show (zkn SH 0 == zown 113) = true; rw [show zkn SH 0 = 9 from kn_0]; rfl)
  · refine Eq.trans (s_aloadn f_255_483 rfl) ?_
    exact s_call [zR 138] [zI v] f_255_484 rfl c_255_56 rfl rfl (Nat.le_of_ble_eq_true rfl) (by show (zkn SH 138 == zown 197) = true; rw [show zkn SH 138 = 10 from kn_138]; rfl)
theorem law_10 (hr : RL S M) (hz : zinv (SH, M)) (hi : lwi S i) : ∃ M2, Q 60 255 492 [zR zSC, zR 0, zR 138, zI i] [] M = Q 60 255 1166 [zR zSC, zR 0, zR 138, zI i] [] M2 ∧ RL S M2 ∧ zinv (SH, M2) := by
  refine law_case (P2 := 501) (P3 := 510) (kx := 114) (km := 198) (as := [zI (S (i + 1))]) hr hz ?_ (o_setCurve (d := 48) hr) t_114 (fun M hs => ?_) (fun M v hs => ?_) f_255_510 (by decide)
  · intro v hv
    simp only [List.mem_cons, List.not_mem_nil, or_false] at hv
    rcases hv with rfl <;> exact ok_i hz hr.1 _
  · refine Eq.trans (s_aloadn f_255_492 rfl) ?_
    refine Eq.trans (s_arg 1 f_255_493 f_255_494 f_255_495 f_255_496 f_255_497 (by decide) hi hs) ?_
    exact s_call [zR 0, zI (S (i + 1))] [] f_255_498 rfl c_255_57 rfl rfl (Nat.le_of_ble_eq_true rfl) (by show (zkn SH 0 == zown 114) = true; rw [show zkn SH 0 = 9 from kn_0]; rfl)
  · refine Eq.trans (s_aloadn f_255_501 rfl) ?_
    refine Eq.trans (s_arg 1 f_255_502 f_255_503 f_255_504 f_255_505 f_255_506 (by decide) hi hs) ?_
    exact s_call [zR 138, zI (S (i + 1))] [zI v] f_255_507 rfl c_255_60 rfl rfl (Nat.le_of_ble_eq_true rfl) (by show (zkn SH 138 == zown 198) = true; rw [show zkn SH 138 = 10 from kn_138]; rfl)
theorem law_11 (hr : RL S M) (hz : zinv (SH, M)) (hi : lwi S i) : ∃ M2, Q 60 255 515 [zR zSC, zR 0, zR 138, zI i] [] M = Q 60 255 1166 [zR zSC, zR 0, zR 138, zI i] [] M2 ∧ RL S M2 ∧ zinv (SH, M2) := by
  refine law_case (P2 := 524) (P3 := 533) (kx := 115) (km := 199) (as := [zI (S (i + 1))]) hr hz ?_ (o_append (d := 48) hr) t_115 (fun M hs => ?_) (fun M v hs => ?_) f_255_533 (by decide)
  · intro v hv
    simp only [List.mem_cons, List.not_mem_nil, or_false] at hv
    rcases hv with rfl <;> exact ok_i hz hr.1 _
  · refine Eq.trans (s_aloadn f_255_515 rfl) ?_
    refine Eq.trans (s_arg 1 f_255_516 f_255_517 f_255_518 f_255_519 f_255_520 (by decide) hi hs) ?_
    exact s_call [zR 0, zI (S (i + 1))] [] f_255_521 rfl c_255_61 rfl rfl (Nat.le_of_ble_eq_true rfl) (by show (zkn SH 0 == zown 115) = true; rw [show zkn SH 0 = 9 from kn_0]; rfl)
  · refine Eq.trans (s_aloadn f_255_524 rfl) ?_
    refine Eq.trans (s_arg 1 f_255_525 f_255_526 f_255_527 f_255_528 f_255_529 (by decide) hi hs) ?_
    exact s_call [zR 138, zI (S (i + 1))] [zI v] f_255_530 rfl c_255_64 rfl rfl (Nat.le_of_ble_eq_true rfl) (by show (zkn SH 138 == zown 199) = true; rw [show zkn SH 138 = 10 from kn_138]; rfl)
theorem law_12 (hr : RL S M) (hz : zinv (SH, M)) (hi : lwi S i) : ∃ M2, Q 60 255 538 [zR zSC, zR 0, zR 138, zI i] [] M = Q 60 255 1166 [zR zSC, zR 0, zR 138, zI i] [] M2 ∧ RL S M2 ∧ zinv (SH, M2) := by
  refine law_case (P2 := 542) (P3 := 546) (kx := 116) (km := 205) (as := []) hr hz ?_ (o_read (d := 40) hr) t_116 (fun M hs => ?_) (fun M v hs => ?_) f_255_546 (by decide)
  · intro v hv
    cases hv
  · refine Eq.trans (s_aloadn f_255_538 rfl) ?_
    exact s_call [zR 0] [] f_255_539 rfl c_255_65 rfl rfl (Nat.le_of_ble_eq_true rfl) (by show (zkn SH 0 == zown 116) = true; rw [show zkn SH 0 = 9 from kn_0]; rfl)
  · refine Eq.trans (s_aloadn f_255_542 rfl) ?_
    exact s_call [zR 138] [zI v] f_255_543 rfl c_255_68 rfl rfl (Nat.le_of_ble_eq_true rfl) (by show (zkn SH 138 == zown 205) = true; rw [show zkn SH 138 = 10 from kn_138]; rfl)
theorem law_13 (hr : RL S M) (hz : zinv (SH, M)) (hi : lwi S i) : ∃ M2, Q 60 255 551 [zR zSC, zR 0, zR 138, zI i] [] M = Q 60 255 1166 [zR zSC, zR 0, zR 138, zI i] [] M2 ∧ RL S M2 ∧ zinv (SH, M2) := by
  refine law_case (P2 := 555) (P3 := 559) (kx := 117) (km := 206) (as := []) hr hz ?_ (o_fault (d := 48) hr) t_117 (fun M hs => ?_) (fun M v hs => ?_) f_255_559 (by decide)
  · intro v hv
    cases hv
  · refine Eq.trans (s_aloadn f_255_551 rfl) ?_
    exact s_call [zR 0] [] f_255_552 rfl c_255_69 rfl rfl (Nat.le_of_ble_eq_true rfl) (by show (zkn SH 0 == zown 117) = true; rw [show zkn SH 0 = 9 from kn_0]; rfl)
  · refine Eq.trans (s_aloadn f_255_555 rfl) ?_
    exact s_call [zR 138] [zI v] f_255_556 rfl c_255_72 rfl rfl (Nat.le_of_ble_eq_true rfl) (by show (zkn SH 138 == zown 206) = true; rw [show zkn SH 138 = 10 from kn_138]; rfl)
theorem law_14 (hr : RL S M) (hz : zinv (SH, M)) (hi : lwi S i) : ∃ M2, Q 60 255 564 [zR zSC, zR 0, zR 138, zI i] [] M = Q 60 255 1166 [zR zSC, zR 0, zR 138, zI i] [] M2 ∧ RL S M2 ∧ zinv (SH, M2) := by
  refine law_case (P2 := 568) (P3 := 572) (kx := 118) (km := 207) (as := []) hr hz ?_ (o_undo (d := 48) hr) t_118 (fun M hs => ?_) (fun M v hs => ?_) f_255_572 (by decide)
  · intro v hv
    cases hv
  · refine Eq.trans (s_aloadn f_255_564 rfl) ?_
    exact s_call [zR 0] [] f_255_565 rfl c_255_73 rfl rfl (Nat.le_of_ble_eq_true rfl) (by show (zkn SH 0 == zown 118) = true; rw [show zkn SH 0 = 9 from kn_0]; rfl)
  · refine Eq.trans (s_aloadn f_255_568 rfl) ?_
    exact s_call [zR 138] [zI v] f_255_569 rfl c_255_76 rfl rfl (Nat.le_of_ble_eq_true rfl) (by show (zkn SH 138 == zown 207) = true; rw [show zkn SH 138 = 10 from kn_138]; rfl)
theorem law_15 (hr : RL S M) (hz : zinv (SH, M)) (hi : lwi S i) : ∃ M2, Q 60 255 577 [zR zSC, zR 0, zR 138, zI i] [] M = Q 60 255 1166 [zR zSC, zR 0, zR 138, zI i] [] M2 ∧ RL S M2 ∧ zinv (SH, M2) := by
  refine law_case (P2 := 586) (P3 := 595) (kx := 119) (km := 219) (as := [zI (S (i + 1))]) hr hz ?_ (uok_q hr (o_count (d := 48) hr.2.1 hr.2.2.1 hr.2.2.2.2.2.2.1.symm)) t_119 (fun M hs => ?_) (fun M v hs => ?_) f_255_595 (by decide)
  · intro v hv
    simp only [List.mem_cons, List.not_mem_nil, or_false] at hv
    rcases hv with rfl <;> exact ok_i hz hr.1 _
  · refine Eq.trans (s_aloadn f_255_577 rfl) ?_
    refine Eq.trans (s_arg 1 f_255_578 f_255_579 f_255_580 f_255_581 f_255_582 (by decide) hi hs) ?_
    exact s_call [zR 0, zI (S (i + 1))] [] f_255_583 rfl c_255_77 rfl rfl (Nat.le_of_ble_eq_true rfl) (by show (zkn SH 0 == zown 119) = true; rw [show zkn SH 0 = 9 from kn_0]; rfl)
  · refine Eq.trans (s_aloadn f_255_586 rfl) ?_
    refine Eq.trans (s_arg 1 f_255_587 f_255_588 f_255_589 f_255_590 f_255_591 (by decide) hi hs) ?_
    exact s_call [zR 138, zI (S (i + 1))] [zI v] f_255_592 rfl c_255_80 rfl rfl (Nat.le_of_ble_eq_true rfl) (by show (zkn SH 138 == zown 219) = true; rw [show zkn SH 138 = 10 from kn_138]; rfl)
theorem law_16 (hr : RL S M) (hz : zinv (SH, M)) (hi : lwi S i) : ∃ M2, Q 60 255 600 [zR zSC, zR 0, zR 138, zI i] [] M = Q 60 255 1166 [zR zSC, zR 0, zR 138, zI i] [] M2 ∧ RL S M2 ∧ zinv (SH, M2) := by
  refine law_case (P2 := 614) (P3 := 628) (kx := 120) (km := 220) (as := [zI (S (i + 1)), zI (S (i + 2))]) hr hz ?_ (uok_q hr (o_room (d := 48) hr.2.1 hr.2.2.1)) t_120 (fun M hs => ?_) (fun M v hs => ?_) f_255_628 (by decide)
  · intro v hv
    simp only [List.mem_cons, List.not_mem_nil, or_false] at hv
    rcases hv with rfl | rfl <;> exact ok_i hz hr.1 _
  · refine Eq.trans (s_aloadn f_255_600 rfl) ?_
    refine Eq.trans (s_arg 1 f_255_601 f_255_602 f_255_603 f_255_604 f_255_605 (by decide) hi hs) ?_
    refine Eq.trans (s_arg 2 f_255_606 f_255_607 f_255_608 f_255_609 f_255_610 (by decide) hi hs) ?_
    exact s_call [zR 0, zI (S (i + 1)), zI (S (i + 2))] [] f_255_611 rfl c_255_81 rfl rfl (Nat.le_of_ble_eq_true rfl) (by show (zkn SH 0 == zown 120) = true; rw [show zkn SH 0 = 9 from kn_0]; rfl)
  · refine Eq.trans (s_aloadn f_255_614 rfl) ?_
    refine Eq.trans (s_arg 1 f_255_615 f_255_616 f_255_617 f_255_618 f_255_619 (by decide) hi hs) ?_
    refine Eq.trans (s_arg 2 f_255_620 f_255_621 f_255_622 f_255_623 f_255_624 (by decide) hi hs) ?_
    exact s_call [zR 138, zI (S (i + 1)), zI (S (i + 2))] [zI v] f_255_625 rfl c_255_84 rfl rfl (Nat.le_of_ble_eq_true rfl) (by show (zkn SH 138 == zown 220) = true; rw [show zkn SH 138 = 10 from kn_138]; rfl)
theorem law_17 (hr : RL S M) (hz : zinv (SH, M)) (hi : lwi S i) : ∃ M2, Q 60 255 633 [zR zSC, zR 0, zR 138, zI i] [] M = Q 60 255 1166 [zR zSC, zR 0, zR 138, zI i] [] M2 ∧ RL S M2 ∧ zinv (SH, M2) := by
  refine law_case (P2 := 647) (P3 := 661) (kx := 121) (km := 221) (as := [zI (S (i + 1)), zI (S (i + 2))]) hr hz ?_ (uok_q hr (o_corridor (d := 48) hr.2.1 hr.2.2.1)) t_121 (fun M hs => ?_) (fun M v hs => ?_) f_255_661 (by decide)
  · intro v hv
    simp only [List.mem_cons, List.not_mem_nil, or_false] at hv
    rcases hv with rfl | rfl <;> exact ok_i hz hr.1 _
  · refine Eq.trans (s_aloadn f_255_633 rfl) ?_
    refine Eq.trans (s_arg 1 f_255_634 f_255_635 f_255_636 f_255_637 f_255_638 (by decide) hi hs) ?_
    refine Eq.trans (s_arg 2 f_255_639 f_255_640 f_255_641 f_255_642 f_255_643 (by decide) hi hs) ?_
    exact s_call [zR 0, zI (S (i + 1)), zI (S (i + 2))] [] f_255_644 rfl c_255_85 rfl rfl (Nat.le_of_ble_eq_true rfl) (by show (zkn SH 0 == zown 121) = true; rw [show zkn SH 0 = 9 from kn_0]; rfl)
  · refine Eq.trans (s_aloadn f_255_647 rfl) ?_
    refine Eq.trans (s_arg 1 f_255_648 f_255_649 f_255_650 f_255_651 f_255_652 (by decide) hi hs) ?_
    refine Eq.trans (s_arg 2 f_255_653 f_255_654 f_255_655 f_255_656 f_255_657 (by decide) hi hs) ?_
    exact s_call [zR 138, zI (S (i + 1)), zI (S (i + 2))] [zI v] f_255_658 rfl c_255_88 rfl rfl (Nat.le_of_ble_eq_true rfl) (by show (zkn SH 138 == zown 221) = true; rw [show zkn SH 138 = 10 from kn_138]; rfl)
theorem law_18 (hr : RL S M) (hz : zinv (SH, M)) (hi : lwi S i) : ∃ M2, Q 60 255 666 [zR zSC, zR 0, zR 138, zI i] [] M = Q 60 255 1166 [zR zSC, zR 0, zR 138, zI i] [] M2 ∧ RL S M2 ∧ zinv (SH, M2) := by
  refine law_case (P2 := 680) (P3 := 694) (kx := 122) (km := 222) (as := [zI (S (i + 1)), zI (S (i + 2))]) hr hz ?_ (uok_q hr (o_between (d := 48) hr.2.1 hr.2.2.1)) t_122 (fun M hs => ?_) (fun M v hs => ?_) f_255_694 (by decide)
  · intro v hv
    simp only [List.mem_cons, List.not_mem_nil, or_false] at hv
    rcases hv with rfl | rfl <;> exact ok_i hz hr.1 _
  · refine Eq.trans (s_aloadn f_255_666 rfl) ?_
    refine Eq.trans (s_arg 1 f_255_667 f_255_668 f_255_669 f_255_670 f_255_671 (by decide) hi hs) ?_
    refine Eq.trans (s_arg 2 f_255_672 f_255_673 f_255_674 f_255_675 f_255_676 (by decide) hi hs) ?_
    exact s_call [zR 0, zI (S (i + 1)), zI (S (i + 2))] [] f_255_677 rfl c_255_89 rfl rfl (Nat.le_of_ble_eq_true rfl) (by show (zkn SH 0 == zown 122) = true; rw [show zkn SH 0 = 9 from kn_0]; rfl)
  · refine Eq.trans (s_aloadn f_255_680 rfl) ?_
    refine Eq.trans (s_arg 1 f_255_681 f_255_682 f_255_683 f_255_684 f_255_685 (by decide) hi hs) ?_
    refine Eq.trans (s_arg 2 f_255_686 f_255_687 f_255_688 f_255_689 f_255_690 (by decide) hi hs) ?_
    exact s_call [zR 138, zI (S (i + 1)), zI (S (i + 2))] [zI v] f_255_691 rfl c_255_92 rfl rfl (Nat.le_of_ble_eq_true rfl) (by show (zkn SH 138 == zown 222) = true; rw [show zkn SH 138 = 10 from kn_138]; rfl)
theorem law_19 (hr : RL S M) (hz : zinv (SH, M)) (hi : lwi S i) : ∃ M2, Q 60 255 699 [zR zSC, zR 0, zR 138, zI i] [] M = Q 60 255 1166 [zR zSC, zR 0, zR 138, zI i] [] M2 ∧ RL S M2 ∧ zinv (SH, M2) := by
  refine law_case (P2 := 703) (P3 := 707) (kx := 123) (km := 223) (as := []) hr hz ?_ (uok_q hr (o_entrance (d := 48) hr.2.1 hr.2.2.1)) t_123 (fun M hs => ?_) (fun M v hs => ?_) f_255_707 (by decide)
  · intro v hv
    cases hv
  · refine Eq.trans (s_aloadn f_255_699 rfl) ?_
    exact s_call [zR 0] [] f_255_700 rfl c_255_93 rfl rfl (Nat.le_of_ble_eq_true rfl) (by show (zkn SH 0 == zown 123) = true; rw [show zkn SH 0 = 9 from kn_0]; rfl)
  · refine Eq.trans (s_aloadn f_255_703 rfl) ?_
    exact s_call [zR 138] [zI v] f_255_704 rfl c_255_96 rfl rfl (Nat.le_of_ble_eq_true rfl) (by show (zkn SH 138 == zown 223) = true; rw [show zkn SH 138 = 10 from kn_138]; rfl)
theorem law_20 (hr : RL S M) (hz : zinv (SH, M)) (hi : lwi S i) : ∃ M2, Q 60 255 712 [zR zSC, zR 0, zR 138, zI i] [] M = Q 60 255 1166 [zR zSC, zR 0, zR 138, zI i] [] M2 ∧ RL S M2 ∧ zinv (SH, M2) := by
  refine law_case (P2 := 726) (P3 := 740) (kx := 124) (km := 213) (as := [zI (S (i + 1)), zI (S (i + 2))]) hr hz ?_ (uok_q hr (o_cell (d := 48) hr.2.1 hr.2.2.1)) t_124 (fun M hs => ?_) (fun M v hs => ?_) f_255_740 (by decide)
  · intro v hv
    simp only [List.mem_cons, List.not_mem_nil, or_false] at hv
    rcases hv with rfl | rfl <;> exact ok_i hz hr.1 _
  · refine Eq.trans (s_aloadn f_255_712 rfl) ?_
    refine Eq.trans (s_arg 1 f_255_713 f_255_714 f_255_715 f_255_716 f_255_717 (by decide) hi hs) ?_
    refine Eq.trans (s_arg 2 f_255_718 f_255_719 f_255_720 f_255_721 f_255_722 (by decide) hi hs) ?_
    exact s_call [zR 0, zI (S (i + 1)), zI (S (i + 2))] [] f_255_723 rfl c_255_97 rfl rfl (Nat.le_of_ble_eq_true rfl) (by show (zkn SH 0 == zown 124) = true; rw [show zkn SH 0 = 9 from kn_0]; rfl)
  · refine Eq.trans (s_aloadn f_255_726 rfl) ?_
    refine Eq.trans (s_arg 1 f_255_727 f_255_728 f_255_729 f_255_730 f_255_731 (by decide) hi hs) ?_
    refine Eq.trans (s_arg 2 f_255_732 f_255_733 f_255_734 f_255_735 f_255_736 (by decide) hi hs) ?_
    exact s_call [zR 138, zI (S (i + 1)), zI (S (i + 2))] [zI v] f_255_737 rfl c_255_100 rfl rfl (Nat.le_of_ble_eq_true rfl) (by show (zkn SH 138 == zown 213) = true; rw [show zkn SH 138 = 10 from kn_138]; rfl)
theorem law_21 (hr : RL S M) (hz : zinv (SH, M)) (hi : lwi S i) : ∃ M2, Q 60 255 745 [zR zSC, zR 0, zR 138, zI i] [] M = Q 60 255 1166 [zR zSC, zR 0, zR 138, zI i] [] M2 ∧ RL S M2 ∧ zinv (SH, M2) := by
  refine law_case (P2 := 759) (P3 := 773) (kx := 125) (km := 214) (as := [zI (S (i + 1)), zI (S (i + 2))]) hr hz ?_ (uok_q hr (o_sign (d := 48) hr.2.1 hr.2.2.1)) t_125 (fun M hs => ?_) (fun M v hs => ?_) f_255_773 (by decide)
  · intro v hv
    simp only [List.mem_cons, List.not_mem_nil, or_false] at hv
    rcases hv with rfl | rfl <;> exact ok_i hz hr.1 _
  · refine Eq.trans (s_aloadn f_255_745 rfl) ?_
    refine Eq.trans (s_arg 1 f_255_746 f_255_747 f_255_748 f_255_749 f_255_750 (by decide) hi hs) ?_
    refine Eq.trans (s_arg 2 f_255_751 f_255_752 f_255_753 f_255_754 f_255_755 (by decide) hi hs) ?_
    exact s_call [zR 0, zI (S (i + 1)), zI (S (i + 2))] [] f_255_756 rfl c_255_101 rfl rfl (Nat.le_of_ble_eq_true rfl) (by show (zkn SH 0 == zown 125) = true; rw [show zkn SH 0 = 9 from kn_0]; rfl)
  · refine Eq.trans (s_aloadn f_255_759 rfl) ?_
    refine Eq.trans (s_arg 1 f_255_760 f_255_761 f_255_762 f_255_763 f_255_764 (by decide) hi hs) ?_
    refine Eq.trans (s_arg 2 f_255_765 f_255_766 f_255_767 f_255_768 f_255_769 (by decide) hi hs) ?_
    exact s_call [zR 138, zI (S (i + 1)), zI (S (i + 2))] [zI v] f_255_770 rfl c_255_104 rfl rfl (Nat.le_of_ble_eq_true rfl) (by show (zkn SH 138 == zown 214) = true; rw [show zkn SH 138 = 10 from kn_138]; rfl)
theorem law_22 (hr : RL S M) (hz : zinv (SH, M)) (hi : lwi S i) : ∃ M2, Q 60 255 778 [zR zSC, zR 0, zR 138, zI i] [] M = Q 60 255 1166 [zR zSC, zR 0, zR 138, zI i] [] M2 ∧ RL S M2 ∧ zinv (SH, M2) := by
  refine law_case (P2 := 802) (P3 := 826) (kx := 126) (km := 217) (as := [zI (S (i + 1)), zI (S (i + 2)), zI (S (i + 3)), zI (S (i + 4))]) hr hz ?_ (uok_q hr (o_steps (d := 48) hr.2.1 hr.2.2.1)) t_126 (fun M hs => ?_) (fun M v hs => ?_) f_255_826 (by decide)
  · intro v hv
    simp only [List.mem_cons, List.not_mem_nil, or_false] at hv
    rcases hv with rfl | rfl | rfl | rfl <;> exact ok_i hz hr.1 _
  · refine Eq.trans (s_aloadn f_255_778 rfl) ?_
    refine Eq.trans (s_arg 1 f_255_779 f_255_780 f_255_781 f_255_782 f_255_783 (by decide) hi hs) ?_
    refine Eq.trans (s_arg 2 f_255_784 f_255_785 f_255_786 f_255_787 f_255_788 (by decide) hi hs) ?_
    refine Eq.trans (s_arg 3 f_255_789 f_255_790 f_255_791 f_255_792 f_255_793 (by decide) hi hs) ?_
    refine Eq.trans (s_arg 4 f_255_794 f_255_795 f_255_796 f_255_797 f_255_798 (by decide) hi hs) ?_
    exact s_call [zR 0, zI (S (i + 1)), zI (S (i + 2)), zI (S (i + 3)), zI (S (i + 4))] [] f_255_799 rfl c_255_105 rfl rfl (Nat.le_of_ble_eq_true rfl) (by show (zkn SH 0 == zown 126) = true; rw [show zkn SH 0 = 9 from kn_0]; rfl)
  · refine Eq.trans (s_aloadn f_255_802 rfl) ?_
    refine Eq.trans (s_arg 1 f_255_803 f_255_804 f_255_805 f_255_806 f_255_807 (by decide) hi hs) ?_
    refine Eq.trans (s_arg 2 f_255_808 f_255_809 f_255_810 f_255_811 f_255_812 (by decide) hi hs) ?_
    refine Eq.trans (s_arg 3 f_255_813 f_255_814 f_255_815 f_255_816 f_255_817 (by decide) hi hs) ?_
    refine Eq.trans (s_arg 4 f_255_818 f_255_819 f_255_820 f_255_821 f_255_822 (by decide) hi hs) ?_
    exact s_call [zR 138, zI (S (i + 1)), zI (S (i + 2)), zI (S (i + 3)), zI (S (i + 4))] [zI v] f_255_823 rfl c_255_108 rfl rfl (Nat.le_of_ble_eq_true rfl) (by show (zkn SH 138 == zown 217) = true; rw [show zkn SH 138 = 10 from kn_138]; rfl)
theorem law_23 (hr : RL S M) (hz : zinv (SH, M)) (hi : lwi S i) : ∃ M2, Q 60 255 831 [zR zSC, zR 0, zR 138, zI i] [] M = Q 60 255 1166 [zR zSC, zR 0, zR 138, zI i] [] M2 ∧ RL S M2 ∧ zinv (SH, M2) := by
  refine law_case (P2 := 840) (P3 := 849) (kx := 127) (km := 224) (as := [zI (S (i + 1))]) hr hz ?_ (uok_q hr (o_depth (d := 48) hr.2.1 hr.2.2.1)) t_127 (fun M hs => ?_) (fun M v hs => ?_) f_255_849 (by decide)
  · intro v hv
    simp only [List.mem_cons, List.not_mem_nil, or_false] at hv
    rcases hv with rfl <;> exact ok_i hz hr.1 _
  · refine Eq.trans (s_aloadn f_255_831 rfl) ?_
    refine Eq.trans (s_arg 1 f_255_832 f_255_833 f_255_834 f_255_835 f_255_836 (by decide) hi hs) ?_
    exact s_call [zR 0, zI (S (i + 1))] [] f_255_837 rfl c_255_109 rfl rfl (Nat.le_of_ble_eq_true rfl) (by show (zkn SH 0 == zown 127) = true; rw [show zkn SH 0 = 9 from kn_0]; rfl)
  · refine Eq.trans (s_aloadn f_255_840 rfl) ?_
    refine Eq.trans (s_arg 1 f_255_841 f_255_842 f_255_843 f_255_844 f_255_845 (by decide) hi hs) ?_
    exact s_call [zR 138, zI (S (i + 1))] [zI v] f_255_846 rfl c_255_112 rfl rfl (Nat.le_of_ble_eq_true rfl) (by show (zkn SH 138 == zown 224) = true; rw [show zkn SH 138 = 10 from kn_138]; rfl)
theorem law_24 (hr : RL S M) (hz : zinv (SH, M)) (hi : lwi S i) : ∃ M2, Q 60 255 854 [zR zSC, zR 0, zR 138, zI i] [] M = Q 60 255 1166 [zR zSC, zR 0, zR 138, zI i] [] M2 ∧ RL S M2 ∧ zinv (SH, M2) := by
  refine law_case (P2 := 863) (P3 := 872) (kx := 128) (km := 225) (as := [zI (S (i + 1))]) hr hz ?_ (uok_q hr (o_difficulty (d := 48) hr.2.1 hr.2.2.1)) t_128 (fun M hs => ?_) (fun M v hs => ?_) f_255_872 (by decide)
  · intro v hv
    simp only [List.mem_cons, List.not_mem_nil, or_false] at hv
    rcases hv with rfl <;> exact ok_i hz hr.1 _
  · refine Eq.trans (s_aloadn f_255_854 rfl) ?_
    refine Eq.trans (s_arg 1 f_255_855 f_255_856 f_255_857 f_255_858 f_255_859 (by decide) hi hs) ?_
    exact s_call [zR 0, zI (S (i + 1))] [] f_255_860 rfl c_255_113 rfl rfl (Nat.le_of_ble_eq_true rfl) (by show (zkn SH 0 == zown 128) = true; rw [show zkn SH 0 = 9 from kn_0]; rfl)
  · refine Eq.trans (s_aloadn f_255_863 rfl) ?_
    refine Eq.trans (s_arg 1 f_255_864 f_255_865 f_255_866 f_255_867 f_255_868 (by decide) hi hs) ?_
    exact s_call [zR 138, zI (S (i + 1))] [zI v] f_255_869 rfl c_255_116 rfl rfl (Nat.le_of_ble_eq_true rfl) (by show (zkn SH 138 == zown 225) = true; rw [show zkn SH 138 = 10 from kn_138]; rfl)
theorem law_25 (hr : RL S M) (hz : zinv (SH, M)) (hi : lwi S i) : ∃ M2, Q 60 255 877 [zR zSC, zR 0, zR 138, zI i] [] M = Q 60 255 1166 [zR zSC, zR 0, zR 138, zI i] [] M2 ∧ RL S M2 ∧ zinv (SH, M2) := by
  refine law_case (P2 := 881) (P3 := 885) (kx := 129) (km := 226) (as := []) hr hz ?_ (uok_q hr (o_visits (d := 48) hr.2.1 hr.2.2.1)) t_129 (fun M hs => ?_) (fun M v hs => ?_) f_255_885 (by decide)
  · intro v hv
    cases hv
  · refine Eq.trans (s_aloadn f_255_877 rfl) ?_
    exact s_call [zR 0] [] f_255_878 rfl c_255_117 rfl rfl (Nat.le_of_ble_eq_true rfl) (by show (zkn SH 0 == zown 129) = true; rw [show zkn SH 0 = 9 from kn_0]; rfl)
  · refine Eq.trans (s_aloadn f_255_881 rfl) ?_
    exact s_call [zR 138] [zI v] f_255_882 rfl c_255_120 rfl rfl (Nat.le_of_ble_eq_true rfl) (by show (zkn SH 138 == zown 226) = true; rw [show zkn SH 138 = 10 from kn_138]; rfl)
theorem law_26 (hr : RL S M) (hz : zinv (SH, M)) (hi : lwi S i) : ∃ M2, Q 60 255 890 [zR zSC, zR 0, zR 138, zI i] [] M = Q 60 255 1166 [zR zSC, zR 0, zR 138, zI i] [] M2 ∧ RL S M2 ∧ zinv (SH, M2) := by
  refine law_case (P2 := 899) (P3 := 908) (kx := 130) (km := 227) (as := [zI (S (i + 1))]) hr hz ?_ (uok_q hr (o_visit (d := 48) hr.2.1 hr.2.2.1)) t_130 (fun M hs => ?_) (fun M v hs => ?_) f_255_908 (by decide)
  · intro v hv
    simp only [List.mem_cons, List.not_mem_nil, or_false] at hv
    rcases hv with rfl <;> exact ok_i hz hr.1 _
  · refine Eq.trans (s_aloadn f_255_890 rfl) ?_
    refine Eq.trans (s_arg 1 f_255_891 f_255_892 f_255_893 f_255_894 f_255_895 (by decide) hi hs) ?_
    exact s_call [zR 0, zI (S (i + 1))] [] f_255_896 rfl c_255_121 rfl rfl (Nat.le_of_ble_eq_true rfl) (by show (zkn SH 0 == zown 130) = true; rw [show zkn SH 0 = 9 from kn_0]; rfl)
  · refine Eq.trans (s_aloadn f_255_899 rfl) ?_
    refine Eq.trans (s_arg 1 f_255_900 f_255_901 f_255_902 f_255_903 f_255_904 (by decide) hi hs) ?_
    exact s_call [zR 138, zI (S (i + 1))] [zI v] f_255_905 rfl c_255_124 rfl rfl (Nat.le_of_ble_eq_true rfl) (by show (zkn SH 138 == zown 227) = true; rw [show zkn SH 138 = 10 from kn_138]; rfl)
theorem law_27 (hr : RL S M) (hz : zinv (SH, M)) (hi : lwi S i) : ∃ M2, Q 60 255 913 [zR zSC, zR 0, zR 138, zI i] [] M = Q 60 255 1166 [zR zSC, zR 0, zR 138, zI i] [] M2 ∧ RL S M2 ∧ zinv (SH, M2) := by
  refine law_case (P2 := 922) (P3 := 931) (kx := 131) (km := 228) (as := [zI (S (i + 1))]) hr hz ?_ (uok_q hr (o_visitedAt (d := 48) hr.2.1 hr.2.2.1)) t_131 (fun M hs => ?_) (fun M v hs => ?_) f_255_931 (by decide)
  · intro v hv
    simp only [List.mem_cons, List.not_mem_nil, or_false] at hv
    rcases hv with rfl <;> exact ok_i hz hr.1 _
  · refine Eq.trans (s_aloadn f_255_913 rfl) ?_
    refine Eq.trans (s_arg 1 f_255_914 f_255_915 f_255_916 f_255_917 f_255_918 (by decide) hi hs) ?_
    exact s_call [zR 0, zI (S (i + 1))] [] f_255_919 rfl c_255_125 rfl rfl (Nat.le_of_ble_eq_true rfl) (by show (zkn SH 0 == zown 131) = true; rw [show zkn SH 0 = 9 from kn_0]; rfl)
  · refine Eq.trans (s_aloadn f_255_922 rfl) ?_
    refine Eq.trans (s_arg 1 f_255_923 f_255_924 f_255_925 f_255_926 f_255_927 (by decide) hi hs) ?_
    exact s_call [zR 138, zI (S (i + 1))] [zI v] f_255_928 rfl c_255_128 rfl rfl (Nat.le_of_ble_eq_true rfl) (by show (zkn SH 138 == zown 228) = true; rw [show zkn SH 138 = 10 from kn_138]; rfl)
theorem law_28 (hr : RL S M) (hz : zinv (SH, M)) (hi : lwi S i) : ∃ M2, Q 60 255 936 [zR zSC, zR 0, zR 138, zI i] [] M = Q 60 255 1166 [zR zSC, zR 0, zR 138, zI i] [] M2 ∧ RL S M2 ∧ zinv (SH, M2) := by
  refine law_case (P2 := 940) (P3 := 944) (kx := 132) (km := 229) (as := []) hr hz ?_ (uok_q hr (o_isSolvable (d := 48) hr.2.1 hr.2.2.1)) t_132 (fun M hs => ?_) (fun M v hs => ?_) f_255_944 (by decide)
  · intro v hv
    cases hv
  · refine Eq.trans (s_aloadn f_255_936 rfl) ?_
    exact s_call [zR 0] [] f_255_937 rfl c_255_129 rfl rfl (Nat.le_of_ble_eq_true rfl) (by show (zkn SH 0 == zown 132) = true; rw [show zkn SH 0 = 9 from kn_0]; rfl)
  · refine Eq.trans (s_aloadn f_255_940 rfl) ?_
    exact s_call [zR 138] [zI v] f_255_941 rfl c_255_132 rfl rfl (Nat.le_of_ble_eq_true rfl) (by show (zkn SH 138 == zown 229) = true; rw [show zkn SH 138 = 10 from kn_138]; rfl)
theorem law_29 (hr : RL S M) (hz : zinv (SH, M)) (hi : lwi S i) : ∃ M2, Q 60 255 949 [zR zSC, zR 0, zR 138, zI i] [] M = Q 60 255 1166 [zR zSC, zR 0, zR 138, zI i] [] M2 ∧ RL S M2 ∧ zinv (SH, M2) := by
  refine law_case (P2 := 953) (P3 := 957) (kx := 133) (km := 230) (as := []) hr hz ?_ (uok_q hr (o_keysFound (d := 48) hr.2.1 hr.2.2.1)) t_133 (fun M hs => ?_) (fun M v hs => ?_) f_255_957 (by decide)
  · intro v hv
    cases hv
  · refine Eq.trans (s_aloadn f_255_949 rfl) ?_
    exact s_call [zR 0] [] f_255_950 rfl c_255_133 rfl rfl (Nat.le_of_ble_eq_true rfl) (by show (zkn SH 0 == zown 133) = true; rw [show zkn SH 0 = 9 from kn_0]; rfl)
  · refine Eq.trans (s_aloadn f_255_953 rfl) ?_
    exact s_call [zR 138] [zI v] f_255_954 rfl c_255_136 rfl rfl (Nat.le_of_ble_eq_true rfl) (by show (zkn SH 138 == zown 230) = true; rw [show zkn SH 138 = 10 from kn_138]; rfl)
theorem law_30 (hr : RL S M) (hz : zinv (SH, M)) (hi : lwi S i) : ∃ M2, Q 60 255 962 [zR zSC, zR 0, zR 138, zI i] [] M = Q 60 255 1166 [zR zSC, zR 0, zR 138, zI i] [] M2 ∧ RL S M2 ∧ zinv (SH, M2) := by
  refine law_case (P2 := 971) (P3 := 980) (kx := 134) (km := 231) (as := [zI (S (i + 1))]) hr hz ?_ (uok_q hr (o_needed (d := 48) hr.2.1 hr.2.2.1)) t_134 (fun M hs => ?_) (fun M v hs => ?_) f_255_980 (by decide)
  · intro v hv
    simp only [List.mem_cons, List.not_mem_nil, or_false] at hv
    rcases hv with rfl <;> exact ok_i hz hr.1 _
  · refine Eq.trans (s_aloadn f_255_962 rfl) ?_
    refine Eq.trans (s_arg 1 f_255_963 f_255_964 f_255_965 f_255_966 f_255_967 (by decide) hi hs) ?_
    exact s_call [zR 0, zI (S (i + 1))] [] f_255_968 rfl c_255_137 rfl rfl (Nat.le_of_ble_eq_true rfl) (by show (zkn SH 0 == zown 134) = true; rw [show zkn SH 0 = 9 from kn_0]; rfl)
  · refine Eq.trans (s_aloadn f_255_971 rfl) ?_
    refine Eq.trans (s_arg 1 f_255_972 f_255_973 f_255_974 f_255_975 f_255_976 (by decide) hi hs) ?_
    exact s_call [zR 138, zI (S (i + 1))] [zI v] f_255_977 rfl c_255_140 rfl rfl (Nat.le_of_ble_eq_true rfl) (by show (zkn SH 138 == zown 231) = true; rw [show zkn SH 138 = 10 from kn_138]; rfl)
theorem law_31 (hr : RL S M) (hz : zinv (SH, M)) (hi : lwi S i) : ∃ M2, Q 60 255 985 [zR zSC, zR 0, zR 138, zI i] [] M = Q 60 255 1166 [zR zSC, zR 0, zR 138, zI i] [] M2 ∧ RL S M2 ∧ zinv (SH, M2) := by
  refine law_case (P2 := 994) (P3 := 1003) (kx := 135) (km := 232) (as := [zI (S (i + 1))]) hr hz ?_ (uok_q hr (o_missing (d := 48) hr.2.1 hr.2.2.1)) t_135 (fun M hs => ?_) (fun M v hs => ?_) f_255_1003 (by decide)
  · intro v hv
    simp only [List.mem_cons, List.not_mem_nil, or_false] at hv
    rcases hv with rfl <;> exact ok_i hz hr.1 _
  · refine Eq.trans (s_aloadn f_255_985 rfl) ?_
    refine Eq.trans (s_arg 1 f_255_986 f_255_987 f_255_988 f_255_989 f_255_990 (by decide) hi hs) ?_
    exact s_call [zR 0, zI (S (i + 1))] [] f_255_991 rfl c_255_141 rfl rfl (Nat.le_of_ble_eq_true rfl) (by show (zkn SH 0 == zown 135) = true; rw [show zkn SH 0 = 9 from kn_0]; rfl)
  · refine Eq.trans (s_aloadn f_255_994 rfl) ?_
    refine Eq.trans (s_arg 1 f_255_995 f_255_996 f_255_997 f_255_998 f_255_999 (by decide) hi hs) ?_
    exact s_call [zR 138, zI (S (i + 1))] [zI v] f_255_1000 rfl c_255_144 rfl rfl (Nat.le_of_ble_eq_true rfl) (by show (zkn SH 138 == zown 232) = true; rw [show zkn SH 138 = 10 from kn_138]; rfl)
theorem law_32 (hr : RL S M) (hz : zinv (SH, M)) (hi : lwi S i) : ∃ M2, Q 60 255 1008 [zR zSC, zR 0, zR 138, zI i] [] M = Q 60 255 1166 [zR zSC, zR 0, zR 138, zI i] [] M2 ∧ RL S M2 ∧ zinv (SH, M2) := by
  refine law_case (P2 := 1017) (P3 := 1026) (kx := 136) (km := 238) (as := [zI (S (i + 1))]) hr hz ?_ (uok_q hr (o_walkLength (d := 48) hr.2.1 hr.2.2.1)) t_136 (fun M hs => ?_) (fun M v hs => ?_) f_255_1026 (by decide)
  · intro v hv
    simp only [List.mem_cons, List.not_mem_nil, or_false] at hv
    rcases hv with rfl <;> exact ok_i hz hr.1 _
  · refine Eq.trans (s_aloadn f_255_1008 rfl) ?_
    refine Eq.trans (s_arg 1 f_255_1009 f_255_1010 f_255_1011 f_255_1012 f_255_1013 (by decide) hi hs) ?_
    exact s_call [zR 0, zI (S (i + 1))] [] f_255_1014 rfl c_255_145 rfl rfl (Nat.le_of_ble_eq_true rfl) (by show (zkn SH 0 == zown 136) = true; rw [show zkn SH 0 = 9 from kn_0]; rfl)
  · refine Eq.trans (s_aloadn f_255_1017 rfl) ?_
    refine Eq.trans (s_arg 1 f_255_1018 f_255_1019 f_255_1020 f_255_1021 f_255_1022 (by decide) hi hs) ?_
    exact s_call [zR 138, zI (S (i + 1))] [zI v] f_255_1023 rfl c_255_148 rfl rfl (Nat.le_of_ble_eq_true rfl) (by show (zkn SH 138 == zown 238) = true; rw [show zkn SH 138 = 10 from kn_138]; rfl)
theorem law_33 (hr : RL S M) (hz : zinv (SH, M)) (hi : lwi S i) : ∃ M2, Q 60 255 1031 [zR zSC, zR 0, zR 138, zI i] [] M = Q 60 255 1166 [zR zSC, zR 0, zR 138, zI i] [] M2 ∧ RL S M2 ∧ zinv (SH, M2) := by
  refine law_case (P2 := 1045) (P3 := 1059) (kx := 137) (km := 239) (as := [zI (S (i + 1)), zI (S (i + 2))]) hr hz ?_ (uok_q hr (o_walkRoom (d := 48) hr.2.1 hr.2.2.1)) t_137 (fun M hs => ?_) (fun M v hs => ?_) f_255_1059 (by decide)
  · intro v hv
    simp only [List.mem_cons, List.not_mem_nil, or_false] at hv
    rcases hv with rfl | rfl <;> exact ok_i hz hr.1 _
  · refine Eq.trans (s_aloadn f_255_1031 rfl) ?_
    refine Eq.trans (s_arg 1 f_255_1032 f_255_1033 f_255_1034 f_255_1035 f_255_1036 (by decide) hi hs) ?_
    refine Eq.trans (s_arg 2 f_255_1037 f_255_1038 f_255_1039 f_255_1040 f_255_1041 (by decide) hi hs) ?_
    exact s_call [zR 0, zI (S (i + 1)), zI (S (i + 2))] [] f_255_1042 rfl c_255_149 rfl rfl (Nat.le_of_ble_eq_true rfl) (by show (zkn SH 0 == zown 137) = true; rw [show zkn SH 0 = 9 from kn_0]; rfl)
  · refine Eq.trans (s_aloadn f_255_1045 rfl) ?_
    refine Eq.trans (s_arg 1 f_255_1046 f_255_1047 f_255_1048 f_255_1049 f_255_1050 (by decide) hi hs) ?_
    refine Eq.trans (s_arg 2 f_255_1051 f_255_1052 f_255_1053 f_255_1054 f_255_1055 (by decide) hi hs) ?_
    exact s_call [zR 138, zI (S (i + 1)), zI (S (i + 2))] [zI v] f_255_1056 rfl c_255_152 rfl rfl (Nat.le_of_ble_eq_true rfl) (by show (zkn SH 138 == zown 239) = true; rw [show zkn SH 138 = 10 from kn_138]; rfl)
theorem law_34 (hr : RL S M) (hz : zinv (SH, M)) (hi : lwi S i) : ∃ M2, Q 60 255 1064 [zR zSC, zR 0, zR 138, zI i] [] M = Q 60 255 1166 [zR zSC, zR 0, zR 138, zI i] [] M2 ∧ RL S M2 ∧ zinv (SH, M2) := by
  refine law_case (P2 := 1068) (P3 := 1072) (kx := 138) (km := 240) (as := []) hr hz ?_ (uok_q hr (o_criticalLength (d := 48) hr.2.1 hr.2.2.1)) t_138 (fun M hs => ?_) (fun M v hs => ?_) f_255_1072 (by decide)
  · intro v hv
    cases hv
  · refine Eq.trans (s_aloadn f_255_1064 rfl) ?_
    exact s_call [zR 0] [] f_255_1065 rfl c_255_153 rfl rfl (Nat.le_of_ble_eq_true rfl) (by show (zkn SH 0 == zown 138) = true; rw [show zkn SH 0 = 9 from kn_0]; rfl)
  · refine Eq.trans (s_aloadn f_255_1068 rfl) ?_
    exact s_call [zR 138] [zI v] f_255_1069 rfl c_255_156 rfl rfl (Nat.le_of_ble_eq_true rfl) (by show (zkn SH 138 == zown 240) = true; rw [show zkn SH 138 = 10 from kn_138]; rfl)
theorem law_35 (hr : RL S M) (hz : zinv (SH, M)) (hi : lwi S i) : ∃ M2, Q 60 255 1077 [zR zSC, zR 0, zR 138, zI i] [] M = Q 60 255 1166 [zR zSC, zR 0, zR 138, zI i] [] M2 ∧ RL S M2 ∧ zinv (SH, M2) := by
  refine law_case (P2 := 1086) (P3 := 1095) (kx := 139) (km := 241) (as := [zI (S (i + 1))]) hr hz ?_ (uok_q hr (o_tension (d := 48) hr.2.1 hr.2.2.1)) t_139 (fun M hs => ?_) (fun M v hs => ?_) f_255_1095 (by decide)
  · intro v hv
    simp only [List.mem_cons, List.not_mem_nil, or_false] at hv
    rcases hv with rfl <;> exact ok_i hz hr.1 _
  · refine Eq.trans (s_aloadn f_255_1077 rfl) ?_
    refine Eq.trans (s_arg 1 f_255_1078 f_255_1079 f_255_1080 f_255_1081 f_255_1082 (by decide) hi hs) ?_
    exact s_call [zR 0, zI (S (i + 1))] [] f_255_1083 rfl c_255_157 rfl rfl (Nat.le_of_ble_eq_true rfl) (by show (zkn SH 0 == zown 139) = true; rw [show zkn SH 0 = 9 from kn_0]; rfl)
  · refine Eq.trans (s_aloadn f_255_1086 rfl) ?_
    refine Eq.trans (s_arg 1 f_255_1087 f_255_1088 f_255_1089 f_255_1090 f_255_1091 (by decide) hi hs) ?_
    exact s_call [zR 138, zI (S (i + 1))] [zI v] f_255_1092 rfl c_255_160 rfl rfl (Nat.le_of_ble_eq_true rfl) (by show (zkn SH 138 == zown 241) = true; rw [show zkn SH 138 = 10 from kn_138]; rfl)
theorem law_36 (hr : RL S M) (hz : zinv (SH, M)) (hi : lwi S i) : ∃ M2, Q 60 255 1100 [zR zSC, zR 0, zR 138, zI i] [] M = Q 60 255 1166 [zR zSC, zR 0, zR 138, zI i] [] M2 ∧ RL S M2 ∧ zinv (SH, M2) := by
  refine law_case (P2 := 1104) (P3 := 1108) (kx := 140) (km := 242) (as := []) hr hz ?_ (uok_q hr (o_drops (d := 48) hr.2.1 hr.2.2.1)) t_140 (fun M hs => ?_) (fun M v hs => ?_) f_255_1108 (by decide)
  · intro v hv
    cases hv
  · refine Eq.trans (s_aloadn f_255_1100 rfl) ?_
    exact s_call [zR 0] [] f_255_1101 rfl c_255_161 rfl rfl (Nat.le_of_ble_eq_true rfl) (by show (zkn SH 0 == zown 140) = true; rw [show zkn SH 0 = 9 from kn_0]; rfl)
  · refine Eq.trans (s_aloadn f_255_1104 rfl) ?_
    exact s_call [zR 138] [zI v] f_255_1105 rfl c_255_164 rfl rfl (Nat.le_of_ble_eq_true rfl) (by show (zkn SH 138 == zown 242) = true; rw [show zkn SH 138 = 10 from kn_138]; rfl)
theorem law_37 (hr : RL S M) (hz : zinv (SH, M)) (hi : lwi S i) : ∃ M2, Q 60 255 1113 [zR zSC, zR 0, zR 138, zI i] [] M = Q 60 255 1166 [zR zSC, zR 0, zR 138, zI i] [] M2 ∧ RL S M2 ∧ zinv (SH, M2) := by
  refine law_case (P2 := 1117) (P3 := 1121) (kx := 141) (km := 243) (as := []) hr hz ?_ (uok_q hr (o_backtracking (d := 48) hr.2.1 hr.2.2.1)) t_141 (fun M hs => ?_) (fun M v hs => ?_) f_255_1121 (by decide)
  · intro v hv
    cases hv
  · refine Eq.trans (s_aloadn f_255_1113 rfl) ?_
    exact s_call [zR 0] [] f_255_1114 rfl c_255_165 rfl rfl (Nat.le_of_ble_eq_true rfl) (by show (zkn SH 0 == zown 141) = true; rw [show zkn SH 0 = 9 from kn_0]; rfl)
  · refine Eq.trans (s_aloadn f_255_1117 rfl) ?_
    exact s_call [zR 138] [zI v] f_255_1118 rfl c_255_168 rfl rfl (Nat.le_of_ble_eq_true rfl) (by show (zkn SH 138 == zown 243) = true; rw [show zkn SH 138 = 10 from kn_138]; rfl)
theorem law_39 (hr : RL S M) (hz : zinv (SH, M)) (hi : lwi S i) : ∃ M2, Q 60 255 1140 [zR zSC, zR 0, zR 138, zI i] [] M = Q 60 255 1166 [zR zSC, zR 0, zR 138, zI i] [] M2 ∧ RL S M2 ∧ zinv (SH, M2) := by
  refine law_case (P2 := 1144) (P3 := 1148) (kx := 143) (km := 245) (as := []) hr hz ?_ (o_save (d := 48) hr) t_143 (fun M hs => ?_) (fun M v hs => ?_) f_255_1148 (by decide)
  · intro v hv
    cases hv
  · refine Eq.trans (s_aloadn f_255_1140 rfl) ?_
    exact s_call [zR 0] [] f_255_1141 rfl c_255_174 rfl rfl (Nat.le_of_ble_eq_true rfl) (by show (zkn SH 0 == zown 143) = true; rw [show zkn SH 0 = 9 from kn_0]; rfl)
  · refine Eq.trans (s_aloadn f_255_1144 rfl) ?_
    exact s_call [zR 138] [zI v] f_255_1145 rfl c_255_177 rfl rfl (Nat.le_of_ble_eq_true rfl) (by show (zkn SH 138 == zown 245) = true; rw [show zkn SH 138 = 10 from kn_138]; rfl)
theorem law_40 (hr : RL S M) (hz : zinv (SH, M)) (hi : lwi S i) : ∃ M2, Q 60 255 1153 [zR zSC, zR 0, zR 138, zI i] [] M = Q 60 255 1166 [zR zSC, zR 0, zR 138, zI i] [] M2 ∧ RL S M2 ∧ zinv (SH, M2) := by
  refine law_case (P2 := 1157) (P3 := 1161) (kx := 144) (km := 246) (as := []) hr hz ?_ (o_restore (d := 48) hr) t_144 (fun M hs => ?_) (fun M v hs => ?_) f_255_1161 (by decide)
  · intro v hv
    cases hv
  · refine Eq.trans (s_aloadn f_255_1153 rfl) ?_
    exact s_call [zR 0] [] f_255_1154 rfl c_255_178 rfl rfl (Nat.le_of_ble_eq_true rfl) (by show (zkn SH 0 == zown 144) = true; rw [show zkn SH 0 = 9 from kn_0]; rfl)
  · refine Eq.trans (s_aloadn f_255_1157 rfl) ?_
    exact s_call [zR 138] [zI v] f_255_1158 rfl c_255_181 rfl rfl (Nat.le_of_ble_eq_true rfl) (by show (zkn SH 138 == zown 246) = true; rw [show zkn SH 138 = 10 from kn_138]; rfl)
end
