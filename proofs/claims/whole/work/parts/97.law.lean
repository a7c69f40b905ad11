/-! the law's loop -/
abbrev mL_law (nm : String) : zM := (⟨RL, nm, "([I)Z"⟩, cL_law, 7, some .boolean)
theorem CR_fX {s : Sg} {m m' : zm} (h : CR s m) (f : fX m m') : CR s m' := by
  obtain ⟨⟨a1, ⟨a2, a, a3, a4, a5⟩, a6, ⟨a7, a8, R, a9, a10⟩, a11, a12, a13, a14⟩, cs⟩ := h
  have q : ∀ b k, b < 810 → m'.1 b k = m.1 b k := fun b k x => congrFun (f b (Or.inl x)).1 k
  have qf : ∀ b, b < 810 → m'.1 b = m.1 b := fun b x => (f b (Or.inl x)).1
  exact ⟨⟨fun w hw => pG_eq (a1 w hw) fun b x1 x2 => qf b (by omega), ⟨by rw [q 22 _ (by decide)]; exact a2, a, a3, by rw [q 22 _ (by decide)]; exact a4, fun i p hp => ⟨by rw [q 23 _ (by decide)]; exact (a5 i p hp).1, pG_eq (a5 i p hp).2 fun b x1 x2 => qf b (by omega)⟩⟩, fun i hi => ⟨by rw [q 146 _ (by decide)]; exact (a6 i hi).1, fun hk w hw => pG_eq ((a6 i hi).2 hk w hw) fun b x1 x2 => qf b (by omega)⟩, ⟨by rw [q 5 _ (by decide)]; exact a7, rowL_cong a8 (qf 21 (by decide)), R, a9, pG_eq a10 fun b x1 x2 => qf b (by omega)⟩, by rw [q 5 _ (by decide)]; exact a11, fun z => by rw [q 5 _ (by decide)]; exact a12 z, a13, by rw [q 1 _ (by decide)]; exact a14⟩, CS_eq cs fun b hb => f b (by omega)⟩
theorem MR_fC {s : Sg} {m m' : zm} (h : MR s m) (f : fC m m') : MR s m' := by
  have q : ∀ k, m'.1 810 k = m.1 810 k := fun k => congrFun (f 810 (by decide)).1 k
  exact MR_rows h (f 811 (by decide)).1 (f 812 (by decide)).1 (f 813 (by decide)).1 (f 814 (by decide)).1 (f 815 (by decide)).1 (q 6) (q 10) rfl (by rw [q]; exact h.2.2.2.2.1) (by rw [q]; exact h.2.2.2.2.2.1) (by rw [q]; exact h.2.2.2.2.2.2)
theorem lk_lrowL : Cond.methodLink RL 181 yL_row ∈ lw_good := lw_good_at (i := 1109) (by decide +kernel) rfl
section ZLw
variable {nm : String} {g : zG} {d : Nat} {M : zM} {C S pc : Nat} {ls st : List Value} {h : zH} {Q : Option Value → zH → Prop} {m : zm}
theorem WP_mono {gr : Bool} {C' S' : Nat} (hC : C ≤ C') (hS : S ≤ S') (k : WP g gr d M C S pc ls st h Q) : WP g gr d M C' S' pc ls st h Q := by
  intro p e R s m args below meth c mc ms QQ fx ret hmc hms H locs cells slots real rel lo lv hc hs
  exact k p e R s m args below meth c mc ms QQ fx ret hmc hms H locs cells slots real rel lo lv (by omega) (by omega)
theorem r_scr {gr : Bool} {i : Int32} {k : Nat} (hx : i = nI k) (hk : k < g_N g) (hk2 : k < 2 ^ 31) (hd : decode M.2.1 pc = .ok (.iaload, 1)) (kk : WP g gr d M C S (pc + 1) ls (.int (g_xs g k) :: st) h Q) : WP g gr d M C S pc ls (.int i :: .ref 0 :: st) h Q := by
  subst hx
  intro p e R s m args below meth c mc ms QQ fx ret hmc hms H locs cells slots real rel lo lv hc hs
  obtain ⟨-, -, -, -, scr, e1, e2, e3, e4, e5, e6, -⟩ := fx.2.1
  have hcell : H[g_b g]? = some scr := by rw [rel.1 _ e6]; exact e1
  refine W.iald fx.1.1 fx.1.2.1 (a := g_b g) (cell := scr) (j := nI k) hcell e2 e3 ?_ (v := .int (g_xs g k)) ?_ rfl rfl hd (kk p e R s m args below meth c mc ms QQ fx ret hmc hms H locs cells slots real rel lo lv hc hs)
  · rw [nI_clamp hk2, e4]
    rintro (q | q)
    · exact i_nn hk2 q
    · omega
  · rw [nI_clamp hk2]
    exact e5 k hk
theorem r_slen {gr : Bool} (hd : decode M.2.1 pc = .ok (.arraylength, 1)) (kk : WP g gr d M C S (pc + 1) ls (.int (nI (g_N g)) :: st) h Q) : WP g gr d M C S pc ls (.ref 0 :: st) h Q := by
  intro p e R s m args below meth c mc ms QQ fx ret hmc hms H locs cells slots real rel lo lv hc hs
  obtain ⟨-, -, -, -, scr, e1, e2, e3, e4, e5, e6, -⟩ := fx.2.1
  have hcell : H[g_b g]? = some scr := by rw [rel.1 _ e6]; exact e1
  exact W.alen fx.1.1 fx.1.2.1 (a := g_b g) (cell := scr) hcell e2 (n := nI (g_N g)) (by rw [e4]; rfl) rfl rfl hd (kk p e R s m args below meth c mc ms QQ fx ret hmc hms H locs cells slots real rel lo lv hc hs)
theorem r_arg {gr : Bool} {pc' i j : Nat} {n : Int} (hn : Int32.ofInt n = nI j) (h0 : ls[0]? = some (.ref 0)) (h4 : ls[4]? = some (.int (nI i))) (hk : i + j < g_N g) (hk2 : g_N g < 2 ^ 31) (d0 : decode M.2.1 pc = .ok (.aload_n 0, 1)) (d1 : decode M.2.1 (pc + 1) = .ok (.iload 4, 2)) (d3 : decode M.2.1 (pc + 3) = .ok (.iconst n, 1)) (d4 : decode M.2.1 (pc + 4) = .ok (.iadd, 1)) (d5 : decode M.2.1 (pc + 5) = .ok (.iaload, 1)) (hp : pc + 6 = pc') (k : WP g gr d M C S pc' ls (.int (g_xs g (i + j)) :: st) h Q) : WP g gr d M C S pc ls st h Q := by
  subst hp
  refine r_aload_n 0 d0 rfl h0 (r_iload d1 h4 (r_iconst (nI j) d3 hn (r_iadd d4 (r_scr (k := i + j) (nI_add i j) hk (by omega) d5 k))))
/-- a step of the law that a call of both is -/
abbrev lwls (i : Nat) : List Value := [.ref 0, .ref 1, .ref 810, .ref 841, .int (nI i), .retAddr 0, .retAddr 0]
abbrev LK (nm : String) (g : zG) (d f i : Nat) (Q : Option Value → zH → Prop) : Prop := ∀ (s' : Sg) (m' : zm), sOK s' → CR s' m' → MR s' m' → WP g false (d + 19) (mL_law nm) f (6 * f) 1785 (lwls i) [] (mk m') Q
theorem lc_feed {s : Sg} {f i : Nat} (hN2 : g_N g < 2 ^ 31) (hi : i + 6 ≤ g_N g) (hs : sOK s) (hc : CR s m) (hm : MR s m) (K : LK nm g d f i Q) : WP g false (d + 19) (mL_law nm) f (6 * f) 224 (lwls i) [] (mk m) Q := by
  obtain ⟨s', r, hs', cx, mx⟩ := x_feed hs (g_xs g (i + 1)) (g_xs g (i + 2)) (g_xs g (i + 3)) (g_xs g (i + 4)) (g_xs g (i + 5))
  refine r_aload_n 1 dL_law_224 rfl rfl ?_
  refine r_arg (i := i) (j := 1) rfl rfl rfl (by omega) hN2 dL_law_225 dL_law_226 dL_law_228 dL_law_229 dL_law_230 rfl ?_
  refine r_arg (i := i) (j := 2) rfl rfl rfl (by omega) hN2 dL_law_231 dL_law_232 dL_law_234 dL_law_235 dL_law_236 rfl ?_
  refine r_arg (i := i) (j := 3) rfl rfl rfl (by omega) hN2 dL_law_237 dL_law_238 dL_law_240 dL_law_241 dL_law_242 rfl ?_
  refine r_arg (i := i) (j := 4) rfl rfl rfl (by omega) hN2 dL_law_243 dL_law_244 dL_law_246 dL_law_247 dL_law_248 rfl ?_
  refine r_arg (i := i) (j := 5) rfl rfl rfl (by omega) hN2 dL_law_249 dL_law_250 dL_law_252 dL_law_253 dL_law_254 rfl ?_
  refine r_callV (C1 := 0) (S1 := 0) (C2 := f) (S2 := 6 * f) [.int (g_xs g (i + 1)), .int (g_xs g (i + 2)), .int (g_xs g (i + 3)), .int (g_xs g (i + 4)), .int (g_xs g (i + 5))] [] 5 dL_law_255 lk_L_19 md_X9_feed (ci := 8) rfl rfl (by decide) (zA a_1) rfl rfl (Nat.le_of_ble_eq_true rfl) (Nat.zero_add _).symm (Nat.zero_add _).symm (cx g false (d + 18) m _ (by omega) hc (fun m1 c1 f1 => ?_))
  show WP g false (d + 19) (mL_law nm) f (6 * f) 258 (lwls i) [.int r] (mk m1) Q
  refine r_aload_n 2 dL_law_258 rfl rfl ?_
  refine r_arg (i := i) (j := 1) rfl rfl rfl (by omega) hN2 dL_law_259 dL_law_260 dL_law_262 dL_law_263 dL_law_264 rfl ?_
  refine r_arg (i := i) (j := 2) rfl rfl rfl (by omega) hN2 dL_law_265 dL_law_266 dL_law_268 dL_law_269 dL_law_270 rfl ?_
  refine r_arg (i := i) (j := 3) rfl rfl rfl (by omega) hN2 dL_law_271 dL_law_272 dL_law_274 dL_law_275 dL_law_276 rfl ?_
  refine r_arg (i := i) (j := 4) rfl rfl rfl (by omega) hN2 dL_law_277 dL_law_278 dL_law_280 dL_law_281 dL_law_282 rfl ?_
  refine r_arg (i := i) (j := 5) rfl rfl rfl (by omega) hN2 dL_law_283 dL_law_284 dL_law_286 dL_law_287 dL_law_288 rfl ?_
  refine r_callV (C1 := 0) (S1 := 0) (C2 := f) (S2 := 6 * f) [.int (g_xs g (i + 1)), .int (g_xs g (i + 2)), .int (g_xs g (i + 3)), .int (g_xs g (i + 4)), .int (g_xs g (i + 5))] [.int r] 5 dL_law_289 lk_L_23 md_X10_feed (ci := 9) rfl rfl (by decide) (zA a_810) rfl rfl (Nat.le_of_ble_eq_true rfl) (Nat.zero_add _).symm (Nat.zero_add _).symm (mx g false (d + 18) m1 _ (by omega) (MR_fC hm f1) (fun m2 c2 f2 => ?_))
  show WP g false (d + 19) (mL_law nm) f (6 * f) 292 (lwls i) [.int r, .int r] (mk m2) Q
  exact r_icmp_eq 1785 dL_law_292 rfl (fun _ => K s' m2 hs' (CR_fX c1 f2) c2) (fun q => absurd rfl q)
theorem lc_text {s : Sg} {f i : Nat} (hN2 : g_N g < 2 ^ 31) (hi : i + 6 ≤ g_N g) (hs : sOK s) (hc : CR s m) (hm : MR s m) (K : LK nm g d f i Q) : WP g false (d + 19) (mL_law nm) f (6 * f) 297 (lwls i) [] (mk m) Q := by
  obtain ⟨s', r, hs', cx, mx⟩ := x_text hs (g_xs g (i + 1)) (g_xs g (i + 2))
  refine r_aload_n 1 dL_law_297 rfl rfl ?_
  refine r_arg (i := i) (j := 1) rfl rfl rfl (by omega) hN2 dL_law_298 dL_law_299 dL_law_301 dL_law_302 dL_law_303 rfl ?_
  refine r_arg (i := i) (j := 2) rfl rfl rfl (by omega) hN2 dL_law_304 dL_law_305 dL_law_307 dL_law_308 dL_law_309 rfl ?_
  refine r_callV (C1 := 0) (S1 := 0) (C2 := f) (S2 := 6 * f) [.int (g_xs g (i + 1)), .int (g_xs g (i + 2))] [] 2 dL_law_310 lk_L_24 md_X9_text (ci := 8) rfl rfl (by decide) (zA a_1) rfl rfl (Nat.le_of_ble_eq_true rfl) (Nat.zero_add _).symm (Nat.zero_add _).symm (cx g false (d + 18) m _ (by omega) hc (fun m1 c1 f1 => ?_))
  show WP g false (d + 19) (mL_law nm) f (6 * f) 313 (lwls i) [.int r] (mk m1) Q
  refine r_aload_n 2 dL_law_313 rfl rfl ?_
  refine r_arg (i := i) (j := 1) rfl rfl rfl (by omega) hN2 dL_law_314 dL_law_315 dL_law_317 dL_law_318 dL_law_319 rfl ?_
  refine r_arg (i := i) (j := 2) rfl rfl rfl (by omega) hN2 dL_law_320 dL_law_321 dL_law_323 dL_law_324 dL_law_325 rfl ?_
  refine r_callV (C1 := 0) (S1 := 0) (C2 := f) (S2 := 6 * f) [.int (g_xs g (i + 1)), .int (g_xs g (i + 2))] [.int r] 2 dL_law_326 lk_L_27 md_X10_text (ci := 9) rfl rfl (by decide) (zA a_810) rfl rfl (Nat.le_of_ble_eq_true rfl) (Nat.zero_add _).symm (Nat.zero_add _).symm (mx g false (d + 18) m1 _ (by omega) (MR_fC hm f1) (fun m2 c2 f2 => ?_))
  show WP g false (d + 19) (mL_law nm) f (6 * f) 329 (lwls i) [.int r, .int r] (mk m2) Q
  exact r_icmp_eq 1785 dL_law_329 rfl (fun _ => K s' m2 hs' (CR_fX c1 f2) c2) (fun q => absurd rfl q)
theorem lc_fault {s : Sg} {f i : Nat} (hN2 : g_N g < 2 ^ 31) (hi : i + 6 ≤ g_N g) (hs : sOK s) (hc : CR s m) (hm : MR s m) (K : LK nm g d f i Q) : WP g false (d + 19) (mL_law nm) f (6 * f) 334 (lwls i) [] (mk m) Q := by
  obtain ⟨s', r, hs', cx, mx⟩ := x_fault hs
  refine r_aload_n 1 dL_law_334 rfl rfl ?_
  refine r_callV (C1 := 0) (S1 := 0) (C2 := f) (S2 := 6 * f) [] [] 0 dL_law_335 lk_L_28 md_X9_fault (ci := 8) rfl rfl (by decide) (zA a_1) rfl rfl (Nat.le_of_ble_eq_true rfl) (Nat.zero_add _).symm (Nat.zero_add _).symm (cx g false (d + 18) m _ (by omega) hc (fun m1 c1 f1 => ?_))
  show WP g false (d + 19) (mL_law nm) f (6 * f) 338 (lwls i) [.int r] (mk m1) Q
  refine r_aload_n 2 dL_law_338 rfl rfl ?_
  refine r_callV (C1 := 0) (S1 := 0) (C2 := f) (S2 := 6 * f) [] [.int r] 0 dL_law_339 lk_L_32 md_X10_fault (ci := 9) rfl rfl (by decide) (zA a_810) rfl rfl (Nat.le_of_ble_eq_true rfl) (Nat.zero_add _).symm (Nat.zero_add _).symm (mx g false (d + 18) m1 _ (by omega) (MR_fC hm f1) (fun m2 c2 f2 => ?_))
  show WP g false (d + 19) (mL_law nm) f (6 * f) 342 (lwls i) [.int r, .int r] (mk m2) Q
  exact r_icmp_eq 1785 dL_law_342 rfl (fun _ => K s' m2 hs' (CR_fX c1 f2) c2) (fun q => absurd rfl q)
theorem lc_where {s : Sg} {f i : Nat} (hN2 : g_N g < 2 ^ 31) (hi : i + 6 ≤ g_N g) (hs : sOK s) (hc : CR s m) (hm : MR s m) (K : LK nm g d f i Q) : WP g false (d + 19) (mL_law nm) f (6 * f) 347 (lwls i) [] (mk m) Q := by
  obtain ⟨s', r, hs', cx, mx⟩ := x_where hs
  refine r_aload_n 1 dL_law_347 rfl rfl ?_
  refine r_callV (C1 := 0) (S1 := 0) (C2 := f) (S2 := 6 * f) [] [] 0 dL_law_348 lk_L_33 md_X9_where (ci := 8) rfl rfl (by decide) (zA a_1) rfl rfl (Nat.le_of_ble_eq_true rfl) (Nat.zero_add _).symm (Nat.zero_add _).symm (cx g false (d + 18) m _ (by omega) hc (fun m1 c1 f1 => ?_))
  show WP g false (d + 19) (mL_law nm) f (6 * f) 351 (lwls i) [.int r] (mk m1) Q
  refine r_aload_n 2 dL_law_351 rfl rfl ?_
  refine r_callV (C1 := 0) (S1 := 0) (C2 := f) (S2 := 6 * f) [] [.int r] 0 dL_law_352 lk_L_36 md_X10_where (ci := 9) rfl rfl (by decide) (zA a_810) rfl rfl (Nat.le_of_ble_eq_true rfl) (Nat.zero_add _).symm (Nat.zero_add _).symm (mx g false (d + 18) m1 _ (by omega) (MR_fC hm f1) (fun m2 c2 f2 => ?_))
  show WP g false (d + 19) (mL_law nm) f (6 * f) 355 (lwls i) [.int r, .int r] (mk m2) Q
  exact r_icmp_eq 1785 dL_law_355 rfl (fun _ => K s' m2 hs' (CR_fX c1 f2) c2) (fun q => absurd rfl q)
theorem lc_graph {s : Sg} {f i : Nat} (hN2 : g_N g < 2 ^ 31) (hi : i + 6 ≤ g_N g) (hs : sOK s) (hc : CR s m) (hm : MR s m) (K : LK nm g d f i Q) : WP g false (d + 19) (mL_law nm) f (6 * f) 360 (lwls i) [] (mk m) Q := by
  obtain ⟨s', r, hs', cx, mx⟩ := x_graph hs (g_xs g (i + 1)) (g_xs g (i + 2))
  refine r_aload_n 1 dL_law_360 rfl rfl ?_
  refine r_arg (i := i) (j := 1) rfl rfl rfl (by omega) hN2 dL_law_361 dL_law_362 dL_law_364 dL_law_365 dL_law_366 rfl ?_
  refine r_arg (i := i) (j := 2) rfl rfl rfl (by omega) hN2 dL_law_367 dL_law_368 dL_law_370 dL_law_371 dL_law_372 rfl ?_
  refine r_callV (C1 := 0) (S1 := 0) (C2 := f) (S2 := 6 * f) [.int (g_xs g (i + 1)), .int (g_xs g (i + 2))] [] 2 dL_law_373 lk_L_37 md_X9_graph (ci := 8) rfl rfl (by decide) (zA a_1) rfl rfl (Nat.le_of_ble_eq_true rfl) (Nat.zero_add _).symm (Nat.zero_add _).symm (cx g false (d + 18) m _ (by omega) hc (fun m1 c1 f1 => ?_))
  show WP g false (d + 19) (mL_law nm) f (6 * f) 376 (lwls i) [.int r] (mk m1) Q
  refine r_aload_n 2 dL_law_376 rfl rfl ?_
  refine r_arg (i := i) (j := 1) rfl rfl rfl (by omega) hN2 dL_law_377 dL_law_378 dL_law_380 dL_law_381 dL_law_382 rfl ?_
  refine r_arg (i := i) (j := 2) rfl rfl rfl (by omega) hN2 dL_law_383 dL_law_384 dL_law_386 dL_law_387 dL_law_388 rfl ?_
  refine r_callV (C1 := 0) (S1 := 0) (C2 := f) (S2 := 6 * f) [.int (g_xs g (i + 1)), .int (g_xs g (i + 2))] [.int r] 2 dL_law_389 lk_L_40 md_X10_graph (ci := 9) rfl rfl (by decide) (zA a_810) rfl rfl (Nat.le_of_ble_eq_true rfl) (Nat.zero_add _).symm (Nat.zero_add _).symm (mx g false (d + 18) m1 _ (by omega) (MR_fC hm f1) (fun m2 c2 f2 => ?_))
  show WP g false (d + 19) (mL_law nm) f (6 * f) 392 (lwls i) [.int r, .int r] (mk m2) Q
  exact r_icmp_eq 1785 dL_law_392 rfl (fun _ => K s' m2 hs' (CR_fX c1 f2) c2) (fun q => absurd rfl q)
theorem lc_colour {s : Sg} {f i : Nat} (hN2 : g_N g < 2 ^ 31) (hi : i + 6 ≤ g_N g) (hs : sOK s) (hc : CR s m) (hm : MR s m) (K : LK nm g d f i Q) : WP g false (d + 19) (mL_law nm) f (6 * f) 397 (lwls i) [] (mk m) Q := by
  obtain ⟨s', r, hs', cx, mx⟩ := x_colour hs (g_xs g (i + 1)) (g_xs g (i + 2))
  refine r_aload_n 1 dL_law_397 rfl rfl ?_
  refine r_arg (i := i) (j := 1) rfl rfl rfl (by omega) hN2 dL_law_398 dL_law_399 dL_law_401 dL_law_402 dL_law_403 rfl ?_
  refine r_arg (i := i) (j := 2) rfl rfl rfl (by omega) hN2 dL_law_404 dL_law_405 dL_law_407 dL_law_408 dL_law_409 rfl ?_
  refine r_callV (C1 := 0) (S1 := 0) (C2 := f) (S2 := 6 * f) [.int (g_xs g (i + 1)), .int (g_xs g (i + 2))] [] 2 dL_law_410 lk_L_41 md_X9_colour (ci := 8) rfl rfl (by decide) (zA a_1) rfl rfl (Nat.le_of_ble_eq_true rfl) (Nat.zero_add _).symm (Nat.zero_add _).symm (cx g false (d + 18) m _ (by omega) hc (fun m1 c1 f1 => ?_))
  show WP g false (d + 19) (mL_law nm) f (6 * f) 413 (lwls i) [.int r] (mk m1) Q
  refine r_aload_n 2 dL_law_413 rfl rfl ?_
  refine r_arg (i := i) (j := 1) rfl rfl rfl (by omega) hN2 dL_law_414 dL_law_415 dL_law_417 dL_law_418 dL_law_419 rfl ?_
  refine r_arg (i := i) (j := 2) rfl rfl rfl (by omega) hN2 dL_law_420 dL_law_421 dL_law_423 dL_law_424 dL_law_425 rfl ?_
  refine r_callV (C1 := 0) (S1 := 0) (C2 := f) (S2 := 6 * f) [.int (g_xs g (i + 1)), .int (g_xs g (i + 2))] [.int r] 2 dL_law_426 lk_L_44 md_X10_colour (ci := 9) rfl rfl (by decide) (zA a_810) rfl rfl (Nat.le_of_ble_eq_true rfl) (Nat.zero_add _).symm (Nat.zero_add _).symm (mx g false (d + 18) m1 _ (by omega) (MR_fC hm f1) (fun m2 c2 f2 => ?_))
  show WP g false (d + 19) (mL_law nm) f (6 * f) 429 (lwls i) [.int r, .int r] (mk m2) Q
  exact r_icmp_eq 1785 dL_law_429 rfl (fun _ => K s' m2 hs' (CR_fX c1 f2) c2) (fun q => absurd rfl q)
theorem lc_kind {s : Sg} {f i : Nat} (hN2 : g_N g < 2 ^ 31) (hi : i + 6 ≤ g_N g) (hs : sOK s) (hc : CR s m) (hm : MR s m) (K : LK nm g d f i Q) : WP g false (d + 19) (mL_law nm) f (6 * f) 434 (lwls i) [] (mk m) Q := by
  obtain ⟨s', r, hs', cx, mx⟩ := x_kind hs (g_xs g (i + 1)) (g_xs g (i + 2)) (g_xs g (i + 3))
  refine r_aload_n 1 dL_law_434 rfl rfl ?_
  refine r_arg (i := i) (j := 1) rfl rfl rfl (by omega) hN2 dL_law_435 dL_law_436 dL_law_438 dL_law_439 dL_law_440 rfl ?_
  refine r_arg (i := i) (j := 2) rfl rfl rfl (by omega) hN2 dL_law_441 dL_law_442 dL_law_444 dL_law_445 dL_law_446 rfl ?_
  refine r_arg (i := i) (j := 3) rfl rfl rfl (by omega) hN2 dL_law_447 dL_law_448 dL_law_450 dL_law_451 dL_law_452 rfl ?_
  refine r_callV (C1 := 0) (S1 := 0) (C2 := f) (S2 := 6 * f) [.int (g_xs g (i + 1)), .int (g_xs g (i + 2)), .int (g_xs g (i + 3))] [] 3 dL_law_453 lk_L_45 md_X9_kind (ci := 8) rfl rfl (by decide) (zA a_1) rfl rfl (Nat.le_of_ble_eq_true rfl) (Nat.zero_add _).symm (Nat.zero_add _).symm (cx g false (d + 18) m _ (by omega) hc (fun m1 c1 f1 => ?_))
  show WP g false (d + 19) (mL_law nm) f (6 * f) 456 (lwls i) [.int r] (mk m1) Q
  refine r_aload_n 2 dL_law_456 rfl rfl ?_
  refine r_arg (i := i) (j := 1) rfl rfl rfl (by omega) hN2 dL_law_457 dL_law_458 dL_law_460 dL_law_461 dL_law_462 rfl ?_
  refine r_arg (i := i) (j := 2) rfl rfl rfl (by omega) hN2 dL_law_463 dL_law_464 dL_law_466 dL_law_467 dL_law_468 rfl ?_
  refine r_arg (i := i) (j := 3) rfl rfl rfl (by omega) hN2 dL_law_469 dL_law_470 dL_law_472 dL_law_473 dL_law_474 rfl ?_
  refine r_callV (C1 := 0) (S1 := 0) (C2 := f) (S2 := 6 * f) [.int (g_xs g (i + 1)), .int (g_xs g (i + 2)), .int (g_xs g (i + 3))] [.int r] 3 dL_law_475 lk_L_49 md_X10_kind (ci := 9) rfl rfl (by decide) (zA a_810) rfl rfl (Nat.le_of_ble_eq_true rfl) (Nat.zero_add _).symm (Nat.zero_add _).symm (mx g false (d + 18) m1 _ (by omega) (MR_fC hm f1) (fun m2 c2 f2 => ?_))
  show WP g false (d + 19) (mL_law nm) f (6 * f) 478 (lwls i) [.int r, .int r] (mk m2) Q
  exact r_icmp_eq 1785 dL_law_478 rfl (fun _ => K s' m2 hs' (CR_fX c1 f2) c2) (fun q => absurd rfl q)
theorem lc_degree {s : Sg} {f i : Nat} (hN2 : g_N g < 2 ^ 31) (hi : i + 6 ≤ g_N g) (hs : sOK s) (hc : CR s m) (hm : MR s m) (K : LK nm g d f i Q) : WP g false (d + 19) (mL_law nm) f (6 * f) 483 (lwls i) [] (mk m) Q := by
  obtain ⟨s', r, hs', cx, mx⟩ := x_degree hs (g_xs g (i + 1)) (g_xs g (i + 2)) (g_xs g (i + 3))
  refine r_aload_n 1 dL_law_483 rfl rfl ?_
  refine r_arg (i := i) (j := 1) rfl rfl rfl (by omega) hN2 dL_law_484 dL_law_485 dL_law_487 dL_law_488 dL_law_489 rfl ?_
  refine r_arg (i := i) (j := 2) rfl rfl rfl (by omega) hN2 dL_law_490 dL_law_491 dL_law_493 dL_law_494 dL_law_495 rfl ?_
  refine r_arg (i := i) (j := 3) rfl rfl rfl (by omega) hN2 dL_law_496 dL_law_497 dL_law_499 dL_law_500 dL_law_501 rfl ?_
  refine r_callV (C1 := 0) (S1 := 0) (C2 := f) (S2 := 6 * f) [.int (g_xs g (i + 1)), .int (g_xs g (i + 2)), .int (g_xs g (i + 3))] [] 3 dL_law_502 lk_L_50 md_X9_degree (ci := 8) rfl rfl (by decide) (zA a_1) rfl rfl (Nat.le_of_ble_eq_true rfl) (Nat.zero_add _).symm (Nat.zero_add _).symm (cx g false (d + 18) m _ (by omega) hc (fun m1 c1 f1 => ?_))
  show WP g false (d + 19) (mL_law nm) f (6 * f) 505 (lwls i) [.int r] (mk m1) Q
  refine r_aload_n 2 dL_law_505 rfl rfl ?_
  refine r_arg (i := i) (j := 1) rfl rfl rfl (by omega) hN2 dL_law_506 dL_law_507 dL_law_509 dL_law_510 dL_law_511 rfl ?_
  refine r_arg (i := i) (j := 2) rfl rfl rfl (by omega) hN2 dL_law_512 dL_law_513 dL_law_515 dL_law_516 dL_law_517 rfl ?_
  refine r_arg (i := i) (j := 3) rfl rfl rfl (by omega) hN2 dL_law_518 dL_law_519 dL_law_521 dL_law_522 dL_law_523 rfl ?_
  refine r_callV (C1 := 0) (S1 := 0) (C2 := f) (S2 := 6 * f) [.int (g_xs g (i + 1)), .int (g_xs g (i + 2)), .int (g_xs g (i + 3))] [.int r] 3 dL_law_524 lk_L_53 md_X10_degree (ci := 9) rfl rfl (by decide) (zA a_810) rfl rfl (Nat.le_of_ble_eq_true rfl) (Nat.zero_add _).symm (Nat.zero_add _).symm (mx g false (d + 18) m1 _ (by omega) (MR_fC hm f1) (fun m2 c2 f2 => ?_))
  show WP g false (d + 19) (mL_law nm) f (6 * f) 527 (lwls i) [.int r, .int r] (mk m2) Q
  exact r_icmp_eq 1785 dL_law_527 rfl (fun _ => K s' m2 hs' (CR_fX c1 f2) c2) (fun q => absurd rfl q)
theorem lc_start {s : Sg} {f i : Nat} (hN2 : g_N g < 2 ^ 31) (hi : i + 6 ≤ g_N g) (hs : sOK s) (hc : CR s m) (hm : MR s m) (K : LK nm g d f i Q) : WP g false (d + 19) (mL_law nm) f (6 * f) 532 (lwls i) [] (mk m) Q := by
  obtain ⟨s', r, hs', cx, mx⟩ := x_start hs (g_xs g (i + 1)) (g_xs g (i + 2))
  refine r_aload_n 1 dL_law_532 rfl rfl ?_
  refine r_arg (i := i) (j := 1) rfl rfl rfl (by omega) hN2 dL_law_533 dL_law_534 dL_law_536 dL_law_537 dL_law_538 rfl ?_
  refine r_arg (i := i) (j := 2) rfl rfl rfl (by omega) hN2 dL_law_539 dL_law_540 dL_law_542 dL_law_543 dL_law_544 rfl ?_
  refine r_callV (C1 := 0) (S1 := 0) (C2 := f) (S2 := 6 * f) [.int (g_xs g (i + 1)), .int (g_xs g (i + 2))] [] 2 dL_law_545 lk_L_54 md_X9_start (ci := 8) rfl rfl (by decide) (zA a_1) rfl rfl (Nat.le_of_ble_eq_true rfl) (Nat.zero_add _).symm (Nat.zero_add _).symm (cx g false (d + 18) m _ (by omega) hc (fun m1 c1 f1 => ?_))
  show WP g false (d + 19) (mL_law nm) f (6 * f) 548 (lwls i) [.int r] (mk m1) Q
  refine r_aload_n 2 dL_law_548 rfl rfl ?_
  refine r_arg (i := i) (j := 1) rfl rfl rfl (by omega) hN2 dL_law_549 dL_law_550 dL_law_552 dL_law_553 dL_law_554 rfl ?_
  refine r_arg (i := i) (j := 2) rfl rfl rfl (by omega) hN2 dL_law_555 dL_law_556 dL_law_558 dL_law_559 dL_law_560 rfl ?_
  refine r_callV (C1 := 0) (S1 := 0) (C2 := f) (S2 := 6 * f) [.int (g_xs g (i + 1)), .int (g_xs g (i + 2))] [.int r] 2 dL_law_561 lk_L_57 md_X10_start (ci := 9) rfl rfl (by decide) (zA a_810) rfl rfl (Nat.le_of_ble_eq_true rfl) (Nat.zero_add _).symm (Nat.zero_add _).symm (mx g false (d + 18) m1 _ (by omega) (MR_fC hm f1) (fun m2 c2 f2 => ?_))
  show WP g false (d + 19) (mL_law nm) f (6 * f) 564 (lwls i) [.int r, .int r] (mk m2) Q
  exact r_icmp_eq 1785 dL_law_564 rfl (fun _ => K s' m2 hs' (CR_fX c1 f2) c2) (fun q => absurd rfl q)
theorem lc_cell {s : Sg} {f i : Nat} (hN2 : g_N g < 2 ^ 31) (hi : i + 6 ≤ g_N g) (hs : sOK s) (hc : CR s m) (hm : MR s m) (K : LK nm g d f i Q) : WP g false (d + 19) (mL_law nm) f (6 * f) 569 (lwls i) [] (mk m) Q := by
  obtain ⟨s', r, hs', cx, mx⟩ := x_cell hs (g_xs g (i + 1)) (g_xs g (i + 2))
  refine r_aload_n 1 dL_law_569 rfl rfl ?_
  refine r_arg (i := i) (j := 1) rfl rfl rfl (by omega) hN2 dL_law_570 dL_law_571 dL_law_573 dL_law_574 dL_law_575 rfl ?_
  refine r_arg (i := i) (j := 2) rfl rfl rfl (by omega) hN2 dL_law_576 dL_law_577 dL_law_579 dL_law_580 dL_law_581 rfl ?_
  refine r_callV (C1 := 0) (S1 := 0) (C2 := f) (S2 := 6 * f) [.int (g_xs g (i + 1)), .int (g_xs g (i + 2))] [] 2 dL_law_582 lk_L_58 md_X9_cell (ci := 8) rfl rfl (by decide) (zA a_1) rfl rfl (Nat.le_of_ble_eq_true rfl) (Nat.zero_add _).symm (Nat.zero_add _).symm (cx g false (d + 18) m _ (by omega) hc (fun m1 c1 f1 => ?_))
  show WP g false (d + 19) (mL_law nm) f (6 * f) 585 (lwls i) [.int r] (mk m1) Q
  refine r_aload_n 2 dL_law_585 rfl rfl ?_
  refine r_arg (i := i) (j := 1) rfl rfl rfl (by omega) hN2 dL_law_586 dL_law_587 dL_law_589 dL_law_590 dL_law_591 rfl ?_
  refine r_arg (i := i) (j := 2) rfl rfl rfl (by omega) hN2 dL_law_592 dL_law_593 dL_law_595 dL_law_596 dL_law_597 rfl ?_
  refine r_callV (C1 := 0) (S1 := 0) (C2 := f) (S2 := 6 * f) [.int (g_xs g (i + 1)), .int (g_xs g (i + 2))] [.int r] 2 dL_law_598 lk_L_61 md_X10_cell (ci := 9) rfl rfl (by decide) (zA a_810) rfl rfl (Nat.le_of_ble_eq_true rfl) (Nat.zero_add _).symm (Nat.zero_add _).symm (mx g false (d + 18) m1 _ (by omega) (MR_fC hm f1) (fun m2 c2 f2 => ?_))
  show WP g false (d + 19) (mL_law nm) f (6 * f) 601 (lwls i) [.int r, .int r] (mk m2) Q
  exact r_icmp_eq 1785 dL_law_601 rfl (fun _ => K s' m2 hs' (CR_fX c1 f2) c2) (fun q => absurd rfl q)
theorem lc_apart {s : Sg} {f i : Nat} (hN2 : g_N g < 2 ^ 31) (hi : i + 6 ≤ g_N g) (hs : sOK s) (hc : CR s m) (hm : MR s m) (K : LK nm g d f i Q) : WP g false (d + 19) (mL_law nm) f (6 * f) 606 (lwls i) [] (mk m) Q := by
  obtain ⟨s', r, hs', cx, mx⟩ := x_apart hs (g_xs g (i + 1)) (g_xs g (i + 2)) (g_xs g (i + 3))
  refine r_aload_n 1 dL_law_606 rfl rfl ?_
  refine r_arg (i := i) (j := 1) rfl rfl rfl (by omega) hN2 dL_law_607 dL_law_608 dL_law_610 dL_law_611 dL_law_612 rfl ?_
  refine r_arg (i := i) (j := 2) rfl rfl rfl (by omega) hN2 dL_law_613 dL_law_614 dL_law_616 dL_law_617 dL_law_618 rfl ?_
  refine r_arg (i := i) (j := 3) rfl rfl rfl (by omega) hN2 dL_law_619 dL_law_620 dL_law_622 dL_law_623 dL_law_624 rfl ?_
  refine r_callV (C1 := 0) (S1 := 0) (C2 := f) (S2 := 6 * f) [.int (g_xs g (i + 1)), .int (g_xs g (i + 2)), .int (g_xs g (i + 3))] [] 3 dL_law_625 lk_L_62 md_X9_apart (ci := 8) rfl rfl (by decide) (zA a_1) rfl rfl (Nat.le_of_ble_eq_true rfl) (Nat.zero_add _).symm (Nat.zero_add _).symm (cx g false (d + 18) m _ (by omega) hc (fun m1 c1 f1 => ?_))
  show WP g false (d + 19) (mL_law nm) f (6 * f) 628 (lwls i) [.int r] (mk m1) Q
  refine r_aload_n 2 dL_law_628 rfl rfl ?_
  refine r_arg (i := i) (j := 1) rfl rfl rfl (by omega) hN2 dL_law_629 dL_law_630 dL_law_632 dL_law_633 dL_law_634 rfl ?_
  refine r_arg (i := i) (j := 2) rfl rfl rfl (by omega) hN2 dL_law_635 dL_law_636 dL_law_638 dL_law_639 dL_law_640 rfl ?_
  refine r_arg (i := i) (j := 3) rfl rfl rfl (by omega) hN2 dL_law_641 dL_law_642 dL_law_644 dL_law_645 dL_law_646 rfl ?_
  refine r_callV (C1 := 0) (S1 := 0) (C2 := f) (S2 := 6 * f) [.int (g_xs g (i + 1)), .int (g_xs g (i + 2)), .int (g_xs g (i + 3))] [.int r] 3 dL_law_647 lk_L_65 md_X10_apart (ci := 9) rfl rfl (by decide) (zA a_810) rfl rfl (Nat.le_of_ble_eq_true rfl) (Nat.zero_add _).symm (Nat.zero_add _).symm (mx g false (d + 18) m1 _ (by omega) (MR_fC hm f1) (fun m2 c2 f2 => ?_))
  show WP g false (d + 19) (mL_law nm) f (6 * f) 650 (lwls i) [.int r, .int r] (mk m2) Q
  exact r_icmp_eq 1785 dL_law_650 rfl (fun _ => K s' m2 hs' (CR_fX c1 f2) c2) (fun q => absurd rfl q)
theorem lc_tree {s : Sg} {f i : Nat} (hN2 : g_N g < 2 ^ 31) (hi : i + 6 ≤ g_N g) (hs : sOK s) (hc : CR s m) (hm : MR s m) (K : LK nm g d f i Q) : WP g false (d + 19) (mL_law nm) f (6 * f) 655 (lwls i) [] (mk m) Q := by
  obtain ⟨s', r, hs', cx, mx⟩ := x_tree hs (g_xs g (i + 1)) (g_xs g (i + 2))
  refine r_aload_n 1 dL_law_655 rfl rfl ?_
  refine r_arg (i := i) (j := 1) rfl rfl rfl (by omega) hN2 dL_law_656 dL_law_657 dL_law_659 dL_law_660 dL_law_661 rfl ?_
  refine r_arg (i := i) (j := 2) rfl rfl rfl (by omega) hN2 dL_law_662 dL_law_663 dL_law_665 dL_law_666 dL_law_667 rfl ?_
  refine r_callV (C1 := 0) (S1 := 0) (C2 := f) (S2 := 6 * f) [.int (g_xs g (i + 1)), .int (g_xs g (i + 2))] [] 2 dL_law_668 lk_L_66 md_X9_tree (ci := 8) rfl rfl (by decide) (zA a_1) rfl rfl (Nat.le_of_ble_eq_true rfl) (Nat.zero_add _).symm (Nat.zero_add _).symm (cx g false (d + 18) m _ (by omega) hc (fun m1 c1 f1 => ?_))
  show WP g false (d + 19) (mL_law nm) f (6 * f) 671 (lwls i) [.int r] (mk m1) Q
  refine r_aload_n 2 dL_law_671 rfl rfl ?_
  refine r_arg (i := i) (j := 1) rfl rfl rfl (by omega) hN2 dL_law_672 dL_law_673 dL_law_675 dL_law_676 dL_law_677 rfl ?_
  refine r_arg (i := i) (j := 2) rfl rfl rfl (by omega) hN2 dL_law_678 dL_law_679 dL_law_681 dL_law_682 dL_law_683 rfl ?_
  refine r_callV (C1 := 0) (S1 := 0) (C2 := f) (S2 := 6 * f) [.int (g_xs g (i + 1)), .int (g_xs g (i + 2))] [.int r] 2 dL_law_684 lk_L_69 md_X10_tree (ci := 9) rfl rfl (by decide) (zA a_810) rfl rfl (Nat.le_of_ble_eq_true rfl) (Nat.zero_add _).symm (Nat.zero_add _).symm (mx g false (d + 18) m1 _ (by omega) (MR_fC hm f1) (fun m2 c2 f2 => ?_))
  show WP g false (d + 19) (mL_law nm) f (6 * f) 687 (lwls i) [.int r, .int r] (mk m2) Q
  exact r_icmp_eq 1785 dL_law_687 rfl (fun _ => K s' m2 hs' (CR_fX c1 f2) c2) (fun q => absurd rfl q)
theorem lc_search {s : Sg} {f i : Nat} (hN2 : g_N g < 2 ^ 31) (hi : i + 6 ≤ g_N g) (hs : sOK s) (hc : CR s m) (hm : MR s m) (K : LK nm g d f i Q) : WP g false (d + 19) (mL_law nm) f (6 * f) 692 (lwls i) [] (mk m) Q := by
  obtain ⟨s', r, hs', cx, mx⟩ := x_search hs (g_xs g (i + 1)) (g_xs g (i + 2))
  refine r_aload_n 1 dL_law_692 rfl rfl ?_
  refine r_arg (i := i) (j := 1) rfl rfl rfl (by omega) hN2 dL_law_693 dL_law_694 dL_law_696 dL_law_697 dL_law_698 rfl ?_
  refine r_arg (i := i) (j := 2) rfl rfl rfl (by omega) hN2 dL_law_699 dL_law_700 dL_law_702 dL_law_703 dL_law_704 rfl ?_
  refine r_callV (C1 := 0) (S1 := 0) (C2 := f) (S2 := 6 * f) [.int (g_xs g (i + 1)), .int (g_xs g (i + 2))] [] 2 dL_law_705 lk_L_70 md_X9_search (ci := 8) rfl rfl (by decide) (zA a_1) rfl rfl (Nat.le_of_ble_eq_true rfl) (Nat.zero_add _).symm (Nat.zero_add _).symm (cx g false (d + 18) m _ (by omega) hc (fun m1 c1 f1 => ?_))
  show WP g false (d + 19) (mL_law nm) f (6 * f) 708 (lwls i) [.int r] (mk m1) Q
  refine r_aload_n 2 dL_law_708 rfl rfl ?_
  refine r_arg (i := i) (j := 1) rfl rfl rfl (by omega) hN2 dL_law_709 dL_law_710 dL_law_712 dL_law_713 dL_law_714 rfl ?_
  refine r_arg (i := i) (j := 2) rfl rfl rfl (by omega) hN2 dL_law_715 dL_law_716 dL_law_718 dL_law_719 dL_law_720 rfl ?_
  refine r_callV (C1 := 0) (S1 := 0) (C2 := f) (S2 := 6 * f) [.int (g_xs g (i + 1)), .int (g_xs g (i + 2))] [.int r] 2 dL_law_721 lk_L_73 md_X10_search (ci := 9) rfl rfl (by decide) (zA a_810) rfl rfl (Nat.le_of_ble_eq_true rfl) (Nat.zero_add _).symm (Nat.zero_add _).symm (mx g false (d + 18) m1 _ (by omega) (MR_fC hm f1) (fun m2 c2 f2 => ?_))
  show WP g false (d + 19) (mL_law nm) f (6 * f) 724 (lwls i) [.int r, .int r] (mk m2) Q
  exact r_icmp_eq 1785 dL_law_724 rfl (fun _ => K s' m2 hs' (CR_fX c1 f2) c2) (fun q => absurd rfl q)
theorem lc_name {s : Sg} {f i : Nat} (hN2 : g_N g < 2 ^ 31) (hi : i + 6 ≤ g_N g) (hs : sOK s) (hc : CR s m) (hm : MR s m) (K : LK nm g d f i Q) : WP g false (d + 19) (mL_law nm) f (6 * f) 729 (lwls i) [] (mk m) Q := by
  obtain ⟨s', r, hs', cx, mx⟩ := x_name hs (g_xs g (i + 1)) (g_xs g (i + 2))
  refine r_aload_n 1 dL_law_729 rfl rfl ?_
  refine r_arg (i := i) (j := 1) rfl rfl rfl (by omega) hN2 dL_law_730 dL_law_731 dL_law_733 dL_law_734 dL_law_735 rfl ?_
  refine r_arg (i := i) (j := 2) rfl rfl rfl (by omega) hN2 dL_law_736 dL_law_737 dL_law_739 dL_law_740 dL_law_741 rfl ?_
  refine r_callV (C1 := 0) (S1 := 0) (C2 := f) (S2 := 6 * f) [.int (g_xs g (i + 1)), .int (g_xs g (i + 2))] [] 2 dL_law_742 lk_L_74 md_X9_name (ci := 8) rfl rfl (by decide) (zA a_1) rfl rfl (Nat.le_of_ble_eq_true rfl) (Nat.zero_add _).symm (Nat.zero_add _).symm (cx g false (d + 18) m _ (by omega) hc (fun m1 c1 f1 => ?_))
  show WP g false (d + 19) (mL_law nm) f (6 * f) 745 (lwls i) [.int r] (mk m1) Q
  refine r_aload_n 2 dL_law_745 rfl rfl ?_
  refine r_arg (i := i) (j := 1) rfl rfl rfl (by omega) hN2 dL_law_746 dL_law_747 dL_law_749 dL_law_750 dL_law_751 rfl ?_
  refine r_arg (i := i) (j := 2) rfl rfl rfl (by omega) hN2 dL_law_752 dL_law_753 dL_law_755 dL_law_756 dL_law_757 rfl ?_
  refine r_callV (C1 := 0) (S1 := 0) (C2 := f) (S2 := 6 * f) [.int (g_xs g (i + 1)), .int (g_xs g (i + 2))] [.int r] 2 dL_law_758 lk_L_77 md_X10_name (ci := 9) rfl rfl (by decide) (zA a_810) rfl rfl (Nat.le_of_ble_eq_true rfl) (Nat.zero_add _).symm (Nat.zero_add _).symm (mx g false (d + 18) m1 _ (by omega) (MR_fC hm f1) (fun m2 c2 f2 => ?_))
  show WP g false (d + 19) (mL_law nm) f (6 * f) 761 (lwls i) [.int r, .int r] (mk m2) Q
  exact r_icmp_eq 1785 dL_law_761 rfl (fun _ => K s' m2 hs' (CR_fX c1 f2) c2) (fun q => absurd rfl q)
theorem lc_place {s : Sg} {f i : Nat} (hN2 : g_N g < 2 ^ 31) (hi : i + 6 ≤ g_N g) (hs : sOK s) (hc : CR s m) (hm : MR s m) (K : LK nm g d f i Q) : WP g false (d + 19) (mL_law nm) f (6 * f) 766 (lwls i) [] (mk m) Q := by
  obtain ⟨s', r, hs', cx, mx⟩ := x_place hs (g_xs g (i + 1)) (g_xs g (i + 2))
  refine r_aload_n 1 dL_law_766 rfl rfl ?_
  refine r_arg (i := i) (j := 1) rfl rfl rfl (by omega) hN2 dL_law_767 dL_law_768 dL_law_770 dL_law_771 dL_law_772 rfl ?_
  refine r_arg (i := i) (j := 2) rfl rfl rfl (by omega) hN2 dL_law_773 dL_law_774 dL_law_776 dL_law_777 dL_law_778 rfl ?_
  refine r_callV (C1 := 0) (S1 := 0) (C2 := f) (S2 := 6 * f) [.int (g_xs g (i + 1)), .int (g_xs g (i + 2))] [] 2 dL_law_779 lk_L_78 md_X9_place (ci := 8) rfl rfl (by decide) (zA a_1) rfl rfl (Nat.le_of_ble_eq_true rfl) (Nat.zero_add _).symm (Nat.zero_add _).symm (cx g false (d + 18) m _ (by omega) hc (fun m1 c1 f1 => ?_))
  show WP g false (d + 19) (mL_law nm) f (6 * f) 782 (lwls i) [.int r] (mk m1) Q
  refine r_aload_n 2 dL_law_782 rfl rfl ?_
  refine r_arg (i := i) (j := 1) rfl rfl rfl (by omega) hN2 dL_law_783 dL_law_784 dL_law_786 dL_law_787 dL_law_788 rfl ?_
  refine r_arg (i := i) (j := 2) rfl rfl rfl (by omega) hN2 dL_law_789 dL_law_790 dL_law_792 dL_law_793 dL_law_794 rfl ?_
  refine r_callV (C1 := 0) (S1 := 0) (C2 := f) (S2 := 6 * f) [.int (g_xs g (i + 1)), .int (g_xs g (i + 2))] [.int r] 2 dL_law_795 lk_L_81 md_X10_place (ci := 9) rfl rfl (by decide) (zA a_810) rfl rfl (Nat.le_of_ble_eq_true rfl) (Nat.zero_add _).symm (Nat.zero_add _).symm (mx g false (d + 18) m1 _ (by omega) (MR_fC hm f1) (fun m2 c2 f2 => ?_))
  show WP g false (d + 19) (mL_law nm) f (6 * f) 798 (lwls i) [.int r, .int r] (mk m2) Q
  exact r_icmp_eq 1785 dL_law_798 rfl (fun _ => K s' m2 hs' (CR_fX c1 f2) c2) (fun q => absurd rfl q)
theorem lc_less {s : Sg} {f i : Nat} (hN2 : g_N g < 2 ^ 31) (hi : i + 6 ≤ g_N g) (hs : sOK s) (hc : CR s m) (hm : MR s m) (K : LK nm g d f i Q) : WP g false (d + 19) (mL_law nm) f (6 * f) 803 (lwls i) [] (mk m) Q := by
  obtain ⟨s', r, hs', cx, mx⟩ := x_less hs (g_xs g (i + 1)) (g_xs g (i + 2))
  refine r_aload_n 1 dL_law_803 rfl rfl ?_
  refine r_arg (i := i) (j := 1) rfl rfl rfl (by omega) hN2 dL_law_804 dL_law_805 dL_law_807 dL_law_808 dL_law_809 rfl ?_
  refine r_arg (i := i) (j := 2) rfl rfl rfl (by omega) hN2 dL_law_810 dL_law_811 dL_law_813 dL_law_814 dL_law_815 rfl ?_
  refine r_callV (C1 := 0) (S1 := 0) (C2 := f) (S2 := 6 * f) [.int (g_xs g (i + 1)), .int (g_xs g (i + 2))] [] 2 dL_law_816 lk_L_82 md_X9_less (ci := 8) rfl rfl (by decide) (zA a_1) rfl rfl (Nat.le_of_ble_eq_true rfl) (Nat.zero_add _).symm (Nat.zero_add _).symm (cx g false (d + 18) m _ (by omega) hc (fun m1 c1 f1 => ?_))
  show WP g false (d + 19) (mL_law nm) f (6 * f) 819 (lwls i) [.int r] (mk m1) Q
  refine r_aload_n 2 dL_law_819 rfl rfl ?_
  refine r_arg (i := i) (j := 1) rfl rfl rfl (by omega) hN2 dL_law_820 dL_law_821 dL_law_823 dL_law_824 dL_law_825 rfl ?_
  refine r_arg (i := i) (j := 2) rfl rfl rfl (by omega) hN2 dL_law_826 dL_law_827 dL_law_829 dL_law_830 dL_law_831 rfl ?_
  refine r_callV (C1 := 0) (S1 := 0) (C2 := f) (S2 := 6 * f) [.int (g_xs g (i + 1)), .int (g_xs g (i + 2))] [.int r] 2 dL_law_832 lk_L_85 md_X10_less (ci := 9) rfl rfl (by decide) (zA a_810) rfl rfl (Nat.le_of_ble_eq_true rfl) (Nat.zero_add _).symm (Nat.zero_add _).symm (mx g false (d + 18) m1 _ (by omega) (MR_fC hm f1) (fun m2 c2 f2 => ?_))
  show WP g false (d + 19) (mL_law nm) f (6 * f) 835 (lwls i) [.int r, .int r] (mk m2) Q
  exact r_icmp_eq 1785 dL_law_835 rfl (fun _ => K s' m2 hs' (CR_fX c1 f2) c2) (fun q => absurd rfl q)
theorem lc_generator {s : Sg} {f i : Nat} (hN2 : g_N g < 2 ^ 31) (hi : i + 6 ≤ g_N g) (hs : sOK s) (hc : CR s m) (hm : MR s m) (K : LK nm g d f i Q) : WP g false (d + 19) (mL_law nm) f (6 * f) 840 (lwls i) [] (mk m) Q := by
  obtain ⟨s', r, hs', cx, mx⟩ := x_generator hs (g_xs g (i + 1)) (g_xs g (i + 2)) (g_xs g (i + 3))
  refine r_aload_n 1 dL_law_840 rfl rfl ?_
  refine r_arg (i := i) (j := 1) rfl rfl rfl (by omega) hN2 dL_law_841 dL_law_842 dL_law_844 dL_law_845 dL_law_846 rfl ?_
  refine r_arg (i := i) (j := 2) rfl rfl rfl (by omega) hN2 dL_law_847 dL_law_848 dL_law_850 dL_law_851 dL_law_852 rfl ?_
  refine r_arg (i := i) (j := 3) rfl rfl rfl (by omega) hN2 dL_law_853 dL_law_854 dL_law_856 dL_law_857 dL_law_858 rfl ?_
  refine r_callV (C1 := 0) (S1 := 0) (C2 := f) (S2 := 6 * f) [.int (g_xs g (i + 1)), .int (g_xs g (i + 2)), .int (g_xs g (i + 3))] [] 3 dL_law_859 lk_L_86 md_X9_generator (ci := 8) rfl rfl (by decide) (zA a_1) rfl rfl (Nat.le_of_ble_eq_true rfl) (Nat.zero_add _).symm (Nat.zero_add _).symm (cx g false (d + 18) m _ (by omega) hc (fun m1 c1 f1 => ?_))
  show WP g false (d + 19) (mL_law nm) f (6 * f) 862 (lwls i) [.int r] (mk m1) Q
  refine r_aload_n 2 dL_law_862 rfl rfl ?_
  refine r_arg (i := i) (j := 1) rfl rfl rfl (by omega) hN2 dL_law_863 dL_law_864 dL_law_866 dL_law_867 dL_law_868 rfl ?_
  refine r_arg (i := i) (j := 2) rfl rfl rfl (by omega) hN2 dL_law_869 dL_law_870 dL_law_872 dL_law_873 dL_law_874 rfl ?_
  refine r_arg (i := i) (j := 3) rfl rfl rfl (by omega) hN2 dL_law_875 dL_law_876 dL_law_878 dL_law_879 dL_law_880 rfl ?_
  refine r_callV (C1 := 0) (S1 := 0) (C2 := f) (S2 := 6 * f) [.int (g_xs g (i + 1)), .int (g_xs g (i + 2)), .int (g_xs g (i + 3))] [.int r] 3 dL_law_881 lk_L_89 md_X10_generator (ci := 9) rfl rfl (by decide) (zA a_810) rfl rfl (Nat.le_of_ble_eq_true rfl) (Nat.zero_add _).symm (Nat.zero_add _).symm (mx g false (d + 18) m1 _ (by omega) (MR_fC hm f1) (fun m2 c2 f2 => ?_))
  show WP g false (d + 19) (mL_law nm) f (6 * f) 884 (lwls i) [.int r, .int r] (mk m2) Q
  exact r_icmp_eq 1785 dL_law_884 rfl (fun _ => K s' m2 hs' (CR_fX c1 f2) c2) (fun q => absurd rfl q)
theorem lc_symmetries {s : Sg} {f i : Nat} (hN2 : g_N g < 2 ^ 31) (hi : i + 6 ≤ g_N g) (hs : sOK s) (hc : CR s m) (hm : MR s m) (K : LK nm g d f i Q) : WP g false (d + 19) (mL_law nm) f (6 * f) 889 (lwls i) [] (mk m) Q := by
  obtain ⟨s', r, hs', cx, mx⟩ := x_symmetries hs (g_xs g (i + 1)) (g_xs g (i + 2))
  refine r_aload_n 1 dL_law_889 rfl rfl ?_
  refine r_arg (i := i) (j := 1) rfl rfl rfl (by omega) hN2 dL_law_890 dL_law_891 dL_law_893 dL_law_894 dL_law_895 rfl ?_
  refine r_arg (i := i) (j := 2) rfl rfl rfl (by omega) hN2 dL_law_896 dL_law_897 dL_law_899 dL_law_900 dL_law_901 rfl ?_
  refine r_callV (C1 := 0) (S1 := 0) (C2 := f) (S2 := 6 * f) [.int (g_xs g (i + 1)), .int (g_xs g (i + 2))] [] 2 dL_law_902 lk_L_90 md_X9_symmetries (ci := 8) rfl rfl (by decide) (zA a_1) rfl rfl (Nat.le_of_ble_eq_true rfl) (Nat.zero_add _).symm (Nat.zero_add _).symm (cx g false (d + 18) m _ (by omega) hc (fun m1 c1 f1 => ?_))
  show WP g false (d + 19) (mL_law nm) f (6 * f) 905 (lwls i) [.int r] (mk m1) Q
  refine r_aload_n 2 dL_law_905 rfl rfl ?_
  refine r_arg (i := i) (j := 1) rfl rfl rfl (by omega) hN2 dL_law_906 dL_law_907 dL_law_909 dL_law_910 dL_law_911 rfl ?_
  refine r_arg (i := i) (j := 2) rfl rfl rfl (by omega) hN2 dL_law_912 dL_law_913 dL_law_915 dL_law_916 dL_law_917 rfl ?_
  refine r_callV (C1 := 0) (S1 := 0) (C2 := f) (S2 := 6 * f) [.int (g_xs g (i + 1)), .int (g_xs g (i + 2))] [.int r] 2 dL_law_918 lk_L_93 md_X10_symmetries (ci := 9) rfl rfl (by decide) (zA a_810) rfl rfl (Nat.le_of_ble_eq_true rfl) (Nat.zero_add _).symm (Nat.zero_add _).symm (mx g false (d + 18) m1 _ (by omega) (MR_fC hm f1) (fun m2 c2 f2 => ?_))
  show WP g false (d + 19) (mL_law nm) f (6 * f) 921 (lwls i) [.int r, .int r] (mk m2) Q
  exact r_icmp_eq 1785 dL_law_921 rfl (fun _ => K s' m2 hs' (CR_fX c1 f2) c2) (fun q => absurd rfl q)
theorem lc_orbit {s : Sg} {f i : Nat} (hN2 : g_N g < 2 ^ 31) (hi : i + 6 ≤ g_N g) (hs : sOK s) (hc : CR s m) (hm : MR s m) (K : LK nm g d f i Q) : WP g false (d + 19) (mL_law nm) f (6 * f) 926 (lwls i) [] (mk m) Q := by
  obtain ⟨s', r, hs', cx, mx⟩ := x_orbit hs (g_xs g (i + 1)) (g_xs g (i + 2))
  refine r_aload_n 1 dL_law_926 rfl rfl ?_
  refine r_arg (i := i) (j := 1) rfl rfl rfl (by omega) hN2 dL_law_927 dL_law_928 dL_law_930 dL_law_931 dL_law_932 rfl ?_
  refine r_arg (i := i) (j := 2) rfl rfl rfl (by omega) hN2 dL_law_933 dL_law_934 dL_law_936 dL_law_937 dL_law_938 rfl ?_
  refine r_callV (C1 := 0) (S1 := 0) (C2 := f) (S2 := 6 * f) [.int (g_xs g (i + 1)), .int (g_xs g (i + 2))] [] 2 dL_law_939 lk_L_94 md_X9_orbit (ci := 8) rfl rfl (by decide) (zA a_1) rfl rfl (Nat.le_of_ble_eq_true rfl) (Nat.zero_add _).symm (Nat.zero_add _).symm (cx g false (d + 18) m _ (by omega) hc (fun m1 c1 f1 => ?_))
  show WP g false (d + 19) (mL_law nm) f (6 * f) 942 (lwls i) [.int r] (mk m1) Q
  refine r_aload_n 2 dL_law_942 rfl rfl ?_
  refine r_arg (i := i) (j := 1) rfl rfl rfl (by omega) hN2 dL_law_943 dL_law_944 dL_law_946 dL_law_947 dL_law_948 rfl ?_
  refine r_arg (i := i) (j := 2) rfl rfl rfl (by omega) hN2 dL_law_949 dL_law_950 dL_law_952 dL_law_953 dL_law_954 rfl ?_
  refine r_callV (C1 := 0) (S1 := 0) (C2 := f) (S2 := 6 * f) [.int (g_xs g (i + 1)), .int (g_xs g (i + 2))] [.int r] 2 dL_law_955 lk_L_97 md_X10_orbit (ci := 9) rfl rfl (by decide) (zA a_810) rfl rfl (Nat.le_of_ble_eq_true rfl) (Nat.zero_add _).symm (Nat.zero_add _).symm (mx g false (d + 18) m1 _ (by omega) (MR_fC hm f1) (fun m2 c2 f2 => ?_))
  show WP g false (d + 19) (mL_law nm) f (6 * f) 958 (lwls i) [.int r, .int r] (mk m2) Q
  exact r_icmp_eq 1785 dL_law_958 rfl (fun _ => K s' m2 hs' (CR_fX c1 f2) c2) (fun q => absurd rfl q)
theorem lc_leave {s : Sg} {f i : Nat} (hN2 : g_N g < 2 ^ 31) (hi : i + 6 ≤ g_N g) (hs : sOK s) (hc : CR s m) (hm : MR s m) (K : LK nm g d f i Q) : WP g false (d + 19) (mL_law nm) f (6 * f) 963 (lwls i) [] (mk m) Q := by
  obtain ⟨s', r, hs', cx, mx⟩ := x_leave hs (g_xs g (i + 1)) (g_xs g (i + 2))
  refine r_aload_n 1 dL_law_963 rfl rfl ?_
  refine r_arg (i := i) (j := 1) rfl rfl rfl (by omega) hN2 dL_law_964 dL_law_965 dL_law_967 dL_law_968 dL_law_969 rfl ?_
  refine r_arg (i := i) (j := 2) rfl rfl rfl (by omega) hN2 dL_law_970 dL_law_971 dL_law_973 dL_law_974 dL_law_975 rfl ?_
  refine r_callV (C1 := 0) (S1 := 0) (C2 := f) (S2 := 6 * f) [.int (g_xs g (i + 1)), .int (g_xs g (i + 2))] [] 2 dL_law_976 lk_L_98 md_X9_leave (ci := 8) rfl rfl (by decide) (zA a_1) rfl rfl (Nat.le_of_ble_eq_true rfl) (Nat.zero_add _).symm (Nat.zero_add _).symm (cx g false (d + 18) m _ (by omega) hc (fun m1 c1 f1 => ?_))
  show WP g false (d + 19) (mL_law nm) f (6 * f) 979 (lwls i) [.int r] (mk m1) Q
  refine r_aload_n 2 dL_law_979 rfl rfl ?_
  refine r_arg (i := i) (j := 1) rfl rfl rfl (by omega) hN2 dL_law_980 dL_law_981 dL_law_983 dL_law_984 dL_law_985 rfl ?_
  refine r_arg (i := i) (j := 2) rfl rfl rfl (by omega) hN2 dL_law_986 dL_law_987 dL_law_989 dL_law_990 dL_law_991 rfl ?_
  refine r_callV (C1 := 0) (S1 := 0) (C2 := f) (S2 := 6 * f) [.int (g_xs g (i + 1)), .int (g_xs g (i + 2))] [.int r] 2 dL_law_992 lk_L_101 md_X10_leave (ci := 9) rfl rfl (by decide) (zA a_810) rfl rfl (Nat.le_of_ble_eq_true rfl) (Nat.zero_add _).symm (Nat.zero_add _).symm (mx g false (d + 18) m1 _ (by omega) (MR_fC hm f1) (fun m2 c2 f2 => ?_))
  show WP g false (d + 19) (mL_law nm) f (6 * f) 995 (lwls i) [.int r, .int r] (mk m2) Q
  exact r_icmp_eq 1785 dL_law_995 rfl (fun _ => K s' m2 hs' (CR_fX c1 f2) c2) (fun q => absurd rfl q)
theorem lc_maps {s : Sg} {f i : Nat} (hN2 : g_N g < 2 ^ 31) (hi : i + 6 ≤ g_N g) (hs : sOK s) (hc : CR s m) (hm : MR s m) (K : LK nm g d f i Q) : WP g false (d + 19) (mL_law nm) f (6 * f) 1000 (lwls i) [] (mk m) Q := by
  obtain ⟨s', r, hs', cx, mx⟩ := x_maps hs (g_xs g (i + 1)) (g_xs g (i + 2))
  refine r_aload_n 1 dL_law_1000 rfl rfl ?_
  refine r_arg (i := i) (j := 1) rfl rfl rfl (by omega) hN2 dL_law_1001 dL_law_1002 dL_law_1004 dL_law_1005 dL_law_1006 rfl ?_
  refine r_arg (i := i) (j := 2) rfl rfl rfl (by omega) hN2 dL_law_1007 dL_law_1008 dL_law_1010 dL_law_1011 dL_law_1012 rfl ?_
  refine r_callV (C1 := 0) (S1 := 0) (C2 := f) (S2 := 6 * f) [.int (g_xs g (i + 1)), .int (g_xs g (i + 2))] [] 2 dL_law_1013 lk_L_102 md_X9_maps (ci := 8) rfl rfl (by decide) (zA a_1) rfl rfl (Nat.le_of_ble_eq_true rfl) (Nat.zero_add _).symm (Nat.zero_add _).symm (cx g false (d + 18) m _ (by omega) hc (fun m1 c1 f1 => ?_))
  show WP g false (d + 19) (mL_law nm) f (6 * f) 1016 (lwls i) [.int r] (mk m1) Q
  refine r_aload_n 2 dL_law_1016 rfl rfl ?_
  refine r_arg (i := i) (j := 1) rfl rfl rfl (by omega) hN2 dL_law_1017 dL_law_1018 dL_law_1020 dL_law_1021 dL_law_1022 rfl ?_
  refine r_arg (i := i) (j := 2) rfl rfl rfl (by omega) hN2 dL_law_1023 dL_law_1024 dL_law_1026 dL_law_1027 dL_law_1028 rfl ?_
  refine r_callV (C1 := 0) (S1 := 0) (C2 := f) (S2 := 6 * f) [.int (g_xs g (i + 1)), .int (g_xs g (i + 2))] [.int r] 2 dL_law_1029 lk_L_105 md_X10_maps (ci := 9) rfl rfl (by decide) (zA a_810) rfl rfl (Nat.le_of_ble_eq_true rfl) (Nat.zero_add _).symm (Nat.zero_add _).symm (mx g false (d + 18) m1 _ (by omega) (MR_fC hm f1) (fun m2 c2 f2 => ?_))
  show WP g false (d + 19) (mL_law nm) f (6 * f) 1032 (lwls i) [.int r, .int r] (mk m2) Q
  exact r_icmp_eq 1785 dL_law_1032 rfl (fun _ => K s' m2 hs' (CR_fX c1 f2) c2) (fun q => absurd rfl q)
theorem lc_map {s : Sg} {f i : Nat} (hN2 : g_N g < 2 ^ 31) (hi : i + 6 ≤ g_N g) (hs : sOK s) (hc : CR s m) (hm : MR s m) (K : LK nm g d f i Q) : WP g false (d + 19) (mL_law nm) f (6 * f) 1037 (lwls i) [] (mk m) Q := by
  obtain ⟨s', r, hs', cx, mx⟩ := x_map hs (g_xs g (i + 1)) (g_xs g (i + 2)) (g_xs g (i + 3))
  refine r_aload_n 1 dL_law_1037 rfl rfl ?_
  refine r_arg (i := i) (j := 1) rfl rfl rfl (by omega) hN2 dL_law_1038 dL_law_1039 dL_law_1041 dL_law_1042 dL_law_1043 rfl ?_
  refine r_arg (i := i) (j := 2) rfl rfl rfl (by omega) hN2 dL_law_1044 dL_law_1045 dL_law_1047 dL_law_1048 dL_law_1049 rfl ?_
  refine r_arg (i := i) (j := 3) rfl rfl rfl (by omega) hN2 dL_law_1050 dL_law_1051 dL_law_1053 dL_law_1054 dL_law_1055 rfl ?_
  refine r_callV (C1 := 0) (S1 := 0) (C2 := f) (S2 := 6 * f) [.int (g_xs g (i + 1)), .int (g_xs g (i + 2)), .int (g_xs g (i + 3))] [] 3 dL_law_1056 lk_L_106 md_X9_map (ci := 8) rfl rfl (by decide) (zA a_1) rfl rfl (Nat.le_of_ble_eq_true rfl) (Nat.zero_add _).symm (Nat.zero_add _).symm (cx g false (d + 18) m _ (by omega) hc (fun m1 c1 f1 => ?_))
  show WP g false (d + 19) (mL_law nm) f (6 * f) 1059 (lwls i) [.int r] (mk m1) Q
  refine r_aload_n 2 dL_law_1059 rfl rfl ?_
  refine r_arg (i := i) (j := 1) rfl rfl rfl (by omega) hN2 dL_law_1060 dL_law_1061 dL_law_1063 dL_law_1064 dL_law_1065 rfl ?_
  refine r_arg (i := i) (j := 2) rfl rfl rfl (by omega) hN2 dL_law_1066 dL_law_1067 dL_law_1069 dL_law_1070 dL_law_1071 rfl ?_
  refine r_arg (i := i) (j := 3) rfl rfl rfl (by omega) hN2 dL_law_1072 dL_law_1073 dL_law_1075 dL_law_1076 dL_law_1077 rfl ?_
  refine r_callV (C1 := 0) (S1 := 0) (C2 := f) (S2 := 6 * f) [.int (g_xs g (i + 1)), .int (g_xs g (i + 2)), .int (g_xs g (i + 3))] [.int r] 3 dL_law_1078 lk_L_109 md_X10_map (ci := 9) rfl rfl (by decide) (zA a_810) rfl rfl (Nat.le_of_ble_eq_true rfl) (Nat.zero_add _).symm (Nat.zero_add _).symm (mx g false (d + 18) m1 _ (by omega) (MR_fC hm f1) (fun m2 c2 f2 => ?_))
  show WP g false (d + 19) (mL_law nm) f (6 * f) 1081 (lwls i) [.int r, .int r] (mk m2) Q
  exact r_icmp_eq 1785 dL_law_1081 rfl (fun _ => K s' m2 hs' (CR_fX c1 f2) c2) (fun q => absurd rfl q)
theorem lc_changes {s : Sg} {f i : Nat} (hN2 : g_N g < 2 ^ 31) (hi : i + 6 ≤ g_N g) (hs : sOK s) (hc : CR s m) (hm : MR s m) (K : LK nm g d f i Q) : WP g false (d + 19) (mL_law nm) f (6 * f) 1086 (lwls i) [] (mk m) Q := by
  obtain ⟨s', r, hs', cx, mx⟩ := x_changes hs (g_xs g (i + 1)) (g_xs g (i + 2))
  refine r_aload_n 1 dL_law_1086 rfl rfl ?_
  refine r_arg (i := i) (j := 1) rfl rfl rfl (by omega) hN2 dL_law_1087 dL_law_1088 dL_law_1090 dL_law_1091 dL_law_1092 rfl ?_
  refine r_arg (i := i) (j := 2) rfl rfl rfl (by omega) hN2 dL_law_1093 dL_law_1094 dL_law_1096 dL_law_1097 dL_law_1098 rfl ?_
  refine r_callV (C1 := 0) (S1 := 0) (C2 := f) (S2 := 6 * f) [.int (g_xs g (i + 1)), .int (g_xs g (i + 2))] [] 2 dL_law_1099 lk_L_110 md_X9_changes (ci := 8) rfl rfl (by decide) (zA a_1) rfl rfl (Nat.le_of_ble_eq_true rfl) (Nat.zero_add _).symm (Nat.zero_add _).symm (cx g false (d + 18) m _ (by omega) hc (fun m1 c1 f1 => ?_))
  show WP g false (d + 19) (mL_law nm) f (6 * f) 1102 (lwls i) [.int r] (mk m1) Q
  refine r_aload_n 2 dL_law_1102 rfl rfl ?_
  refine r_arg (i := i) (j := 1) rfl rfl rfl (by omega) hN2 dL_law_1103 dL_law_1104 dL_law_1106 dL_law_1107 dL_law_1108 rfl ?_
  refine r_arg (i := i) (j := 2) rfl rfl rfl (by omega) hN2 dL_law_1109 dL_law_1110 dL_law_1112 dL_law_1113 dL_law_1114 rfl ?_
  refine r_callV (C1 := 0) (S1 := 0) (C2 := f) (S2 := 6 * f) [.int (g_xs g (i + 1)), .int (g_xs g (i + 2))] [.int r] 2 dL_law_1115 lk_L_113 md_X10_changes (ci := 9) rfl rfl (by decide) (zA a_810) rfl rfl (Nat.le_of_ble_eq_true rfl) (Nat.zero_add _).symm (Nat.zero_add _).symm (mx g false (d + 18) m1 _ (by omega) (MR_fC hm f1) (fun m2 c2 f2 => ?_))
  show WP g false (d + 19) (mL_law nm) f (6 * f) 1118 (lwls i) [.int r, .int r] (mk m2) Q
  exact r_icmp_eq 1785 dL_law_1118 rfl (fun _ => K s' m2 hs' (CR_fX c1 f2) c2) (fun q => absurd rfl q)
theorem lc_told {s : Sg} {f i : Nat} (hN2 : g_N g < 2 ^ 31) (hi : i + 6 ≤ g_N g) (hs : sOK s) (hc : CR s m) (hm : MR s m) (K : LK nm g d f i Q) : WP g false (d + 19) (mL_law nm) f (6 * f) 1123 (lwls i) [] (mk m) Q := by
  obtain ⟨s', r, hs', cx, mx⟩ := x_told hs (g_xs g (i + 1)) (g_xs g (i + 2))
  refine r_aload_n 1 dL_law_1123 rfl rfl ?_
  refine r_arg (i := i) (j := 1) rfl rfl rfl (by omega) hN2 dL_law_1124 dL_law_1125 dL_law_1127 dL_law_1128 dL_law_1129 rfl ?_
  refine r_arg (i := i) (j := 2) rfl rfl rfl (by omega) hN2 dL_law_1130 dL_law_1131 dL_law_1133 dL_law_1134 dL_law_1135 rfl ?_
  refine r_callV (C1 := 0) (S1 := 0) (C2 := f) (S2 := 6 * f) [.int (g_xs g (i + 1)), .int (g_xs g (i + 2))] [] 2 dL_law_1136 lk_L_114 md_X9_told (ci := 8) rfl rfl (by decide) (zA a_1) rfl rfl (Nat.le_of_ble_eq_true rfl) (Nat.zero_add _).symm (Nat.zero_add _).symm (cx g false (d + 18) m _ (by omega) hc (fun m1 c1 f1 => ?_))
  show WP g false (d + 19) (mL_law nm) f (6 * f) 1139 (lwls i) [.int r] (mk m1) Q
  refine r_aload_n 2 dL_law_1139 rfl rfl ?_
  refine r_arg (i := i) (j := 1) rfl rfl rfl (by omega) hN2 dL_law_1140 dL_law_1141 dL_law_1143 dL_law_1144 dL_law_1145 rfl ?_
  refine r_arg (i := i) (j := 2) rfl rfl rfl (by omega) hN2 dL_law_1146 dL_law_1147 dL_law_1149 dL_law_1150 dL_law_1151 rfl ?_
  refine r_callV (C1 := 0) (S1 := 0) (C2 := f) (S2 := 6 * f) [.int (g_xs g (i + 1)), .int (g_xs g (i + 2))] [.int r] 2 dL_law_1152 lk_L_117 md_X10_told (ci := 9) rfl rfl (by decide) (zA a_810) rfl rfl (Nat.le_of_ble_eq_true rfl) (Nat.zero_add _).symm (Nat.zero_add _).symm (mx g false (d + 18) m1 _ (by omega) (MR_fC hm f1) (fun m2 c2 f2 => ?_))
  show WP g false (d + 19) (mL_law nm) f (6 * f) 1155 (lwls i) [.int r, .int r] (mk m2) Q
  exact r_icmp_eq 1785 dL_law_1155 rfl (fun _ => K s' m2 hs' (CR_fX c1 f2) c2) (fun q => absurd rfl q)
theorem lc_cards {s : Sg} {f i : Nat} (hN2 : g_N g < 2 ^ 31) (hi : i + 6 ≤ g_N g) (hs : sOK s) (hc : CR s m) (hm : MR s m) (K : LK nm g d f i Q) : WP g false (d + 19) (mL_law nm) f (6 * f) 1160 (lwls i) [] (mk m) Q := by
  obtain ⟨s', r, hs', cx, mx⟩ := x_cards hs (g_xs g (i + 1)) (g_xs g (i + 2))
  refine r_aload_n 1 dL_law_1160 rfl rfl ?_
  refine r_arg (i := i) (j := 1) rfl rfl rfl (by omega) hN2 dL_law_1161 dL_law_1162 dL_law_1164 dL_law_1165 dL_law_1166 rfl ?_
  refine r_arg (i := i) (j := 2) rfl rfl rfl (by omega) hN2 dL_law_1167 dL_law_1168 dL_law_1170 dL_law_1171 dL_law_1172 rfl ?_
  refine r_callV (C1 := 0) (S1 := 0) (C2 := f) (S2 := 6 * f) [.int (g_xs g (i + 1)), .int (g_xs g (i + 2))] [] 2 dL_law_1173 lk_L_118 md_X9_cards (ci := 8) rfl rfl (by decide) (zA a_1) rfl rfl (Nat.le_of_ble_eq_true rfl) (Nat.zero_add _).symm (Nat.zero_add _).symm (cx g false (d + 18) m _ (by omega) hc (fun m1 c1 f1 => ?_))
  show WP g false (d + 19) (mL_law nm) f (6 * f) 1176 (lwls i) [.int r] (mk m1) Q
  refine r_aload_n 2 dL_law_1176 rfl rfl ?_
  refine r_arg (i := i) (j := 1) rfl rfl rfl (by omega) hN2 dL_law_1177 dL_law_1178 dL_law_1180 dL_law_1181 dL_law_1182 rfl ?_
  refine r_arg (i := i) (j := 2) rfl rfl rfl (by omega) hN2 dL_law_1183 dL_law_1184 dL_law_1186 dL_law_1187 dL_law_1188 rfl ?_
  refine r_callV (C1 := 0) (S1 := 0) (C2 := f) (S2 := 6 * f) [.int (g_xs g (i + 1)), .int (g_xs g (i + 2))] [.int r] 2 dL_law_1189 lk_L_121 md_X10_cards (ci := 9) rfl rfl (by decide) (zA a_810) rfl rfl (Nat.le_of_ble_eq_true rfl) (Nat.zero_add _).symm (Nat.zero_add _).symm (mx g false (d + 18) m1 _ (by omega) (MR_fC hm f1) (fun m2 c2 f2 => ?_))
  show WP g false (d + 19) (mL_law nm) f (6 * f) 1192 (lwls i) [.int r, .int r] (mk m2) Q
  exact r_icmp_eq 1785 dL_law_1192 rfl (fun _ => K s' m2 hs' (CR_fX c1 f2) c2) (fun q => absurd rfl q)
theorem lc_turned {s : Sg} {f i : Nat} (hN2 : g_N g < 2 ^ 31) (hi : i + 6 ≤ g_N g) (hs : sOK s) (hc : CR s m) (hm : MR s m) (K : LK nm g d f i Q) : WP g false (d + 19) (mL_law nm) f (6 * f) 1197 (lwls i) [] (mk m) Q := by
  obtain ⟨s', r, hs', cx, mx⟩ := x_turned hs (g_xs g (i + 1))
  refine r_aload_n 1 dL_law_1197 rfl rfl ?_
  refine r_arg (i := i) (j := 1) rfl rfl rfl (by omega) hN2 dL_law_1198 dL_law_1199 dL_law_1201 dL_law_1202 dL_law_1203 rfl ?_
  refine r_callV (C1 := 0) (S1 := 0) (C2 := f) (S2 := 6 * f) [.int (g_xs g (i + 1))] [] 1 dL_law_1204 lk_L_122 md_X9_turned (ci := 8) rfl rfl (by decide) (zA a_1) rfl rfl (Nat.le_of_ble_eq_true rfl) (Nat.zero_add _).symm (Nat.zero_add _).symm (cx g false (d + 18) m _ (by omega) hc (fun m1 c1 f1 => ?_))
  show WP g false (d + 19) (mL_law nm) f (6 * f) 1207 (lwls i) [.int r] (mk m1) Q
  refine r_aload_n 2 dL_law_1207 rfl rfl ?_
  refine r_arg (i := i) (j := 1) rfl rfl rfl (by omega) hN2 dL_law_1208 dL_law_1209 dL_law_1211 dL_law_1212 dL_law_1213 rfl ?_
  refine r_callV (C1 := 0) (S1 := 0) (C2 := f) (S2 := 6 * f) [.int (g_xs g (i + 1))] [.int r] 1 dL_law_1214 lk_L_126 md_X10_turned (ci := 9) rfl rfl (by decide) (zA a_810) rfl rfl (Nat.le_of_ble_eq_true rfl) (Nat.zero_add _).symm (Nat.zero_add _).symm (mx g false (d + 18) m1 _ (by omega) (MR_fC hm f1) (fun m2 c2 f2 => ?_))
  show WP g false (d + 19) (mL_law nm) f (6 * f) 1217 (lwls i) [.int r, .int r] (mk m2) Q
  exact r_icmp_eq 1785 dL_law_1217 rfl (fun _ => K s' m2 hs' (CR_fX c1 f2) c2) (fun q => absurd rfl q)
theorem lc_base {s : Sg} {f i : Nat} (hN2 : g_N g < 2 ^ 31) (hi : i + 6 ≤ g_N g) (hs : sOK s) (hc : CR s m) (hm : MR s m) (K : LK nm g d f i Q) : WP g false (d + 19) (mL_law nm) f (6 * f) 1222 (lwls i) [] (mk m) Q := by
  obtain ⟨s', r, hs', cx, mx⟩ := x_base hs (g_xs g (i + 1)) (g_xs g (i + 2))
  refine r_aload_n 1 dL_law_1222 rfl rfl ?_
  refine r_arg (i := i) (j := 1) rfl rfl rfl (by omega) hN2 dL_law_1223 dL_law_1224 dL_law_1226 dL_law_1227 dL_law_1228 rfl ?_
  refine r_arg (i := i) (j := 2) rfl rfl rfl (by omega) hN2 dL_law_1229 dL_law_1230 dL_law_1232 dL_law_1233 dL_law_1234 rfl ?_
  refine r_callV (C1 := 0) (S1 := 0) (C2 := f) (S2 := 6 * f) [.int (g_xs g (i + 1)), .int (g_xs g (i + 2))] [] 2 dL_law_1235 lk_L_127 md_X9_base (ci := 8) rfl rfl (by decide) (zA a_1) rfl rfl (Nat.le_of_ble_eq_true rfl) (Nat.zero_add _).symm (Nat.zero_add _).symm (cx g false (d + 18) m _ (by omega) hc (fun m1 c1 f1 => ?_))
  show WP g false (d + 19) (mL_law nm) f (6 * f) 1238 (lwls i) [.int r] (mk m1) Q
  refine r_aload_n 2 dL_law_1238 rfl rfl ?_
  refine r_arg (i := i) (j := 1) rfl rfl rfl (by omega) hN2 dL_law_1239 dL_law_1240 dL_law_1242 dL_law_1243 dL_law_1244 rfl ?_
  refine r_arg (i := i) (j := 2) rfl rfl rfl (by omega) hN2 dL_law_1245 dL_law_1246 dL_law_1248 dL_law_1249 dL_law_1250 rfl ?_
  refine r_callV (C1 := 0) (S1 := 0) (C2 := f) (S2 := 6 * f) [.int (g_xs g (i + 1)), .int (g_xs g (i + 2))] [.int r] 2 dL_law_1251 lk_L_130 md_X10_base (ci := 9) rfl rfl (by decide) (zA a_810) rfl rfl (Nat.le_of_ble_eq_true rfl) (Nat.zero_add _).symm (Nat.zero_add _).symm (mx g false (d + 18) m1 _ (by omega) (MR_fC hm f1) (fun m2 c2 f2 => ?_))
  show WP g false (d + 19) (mL_law nm) f (6 * f) 1254 (lwls i) [.int r, .int r] (mk m2) Q
  exact r_icmp_eq 1785 dL_law_1254 rfl (fun _ => K s' m2 hs' (CR_fX c1 f2) c2) (fun q => absurd rfl q)
theorem lc_fewest {s : Sg} {f i : Nat} (hN2 : g_N g < 2 ^ 31) (hi : i + 6 ≤ g_N g) (hs : sOK s) (hc : CR s m) (hm : MR s m) (K : LK nm g d f i Q) : WP g false (d + 19) (mL_law nm) f (6 * f) 1259 (lwls i) [] (mk m) Q := by
  obtain ⟨s', r, hs', cx, mx⟩ := x_fewest hs (g_xs g (i + 1))
  refine r_aload_n 1 dL_law_1259 rfl rfl ?_
  refine r_arg (i := i) (j := 1) rfl rfl rfl (by omega) hN2 dL_law_1260 dL_law_1261 dL_law_1263 dL_law_1264 dL_law_1265 rfl ?_
  refine r_callV (C1 := 0) (S1 := 0) (C2 := f) (S2 := 6 * f) [.int (g_xs g (i + 1))] [] 1 dL_law_1266 lk_L_131 md_X9_fewest (ci := 8) rfl rfl (by decide) (zA a_1) rfl rfl (Nat.le_of_ble_eq_true rfl) (Nat.zero_add _).symm (Nat.zero_add _).symm (cx g false (d + 18) m _ (by omega) hc (fun m1 c1 f1 => ?_))
  show WP g false (d + 19) (mL_law nm) f (6 * f) 1269 (lwls i) [.int r] (mk m1) Q
  refine r_aload_n 2 dL_law_1269 rfl rfl ?_
  refine r_arg (i := i) (j := 1) rfl rfl rfl (by omega) hN2 dL_law_1270 dL_law_1271 dL_law_1273 dL_law_1274 dL_law_1275 rfl ?_
  refine r_callV (C1 := 0) (S1 := 0) (C2 := f) (S2 := 6 * f) [.int (g_xs g (i + 1))] [.int r] 1 dL_law_1276 lk_L_134 md_X10_fewest (ci := 9) rfl rfl (by decide) (zA a_810) rfl rfl (Nat.le_of_ble_eq_true rfl) (Nat.zero_add _).symm (Nat.zero_add _).symm (mx g false (d + 18) m1 _ (by omega) (MR_fC hm f1) (fun m2 c2 f2 => ?_))
  show WP g false (d + 19) (mL_law nm) f (6 * f) 1279 (lwls i) [.int r, .int r] (mk m2) Q
  exact r_icmp_eq 1785 dL_law_1279 rfl (fun _ => K s' m2 hs' (CR_fX c1 f2) c2) (fun q => absurd rfl q)
theorem lc_link {s : Sg} {f i : Nat} (hN2 : g_N g < 2 ^ 31) (hi : i + 6 ≤ g_N g) (hs : sOK s) (hc : CR s m) (hm : MR s m) (K : LK nm g d f i Q) : WP g false (d + 19) (mL_law nm) f (6 * f) 1284 (lwls i) [] (mk m) Q := by
  obtain ⟨s', r, hs', cx, mx⟩ := x_link hs (g_xs g (i + 1)) (g_xs g (i + 2)) (g_xs g (i + 3)) (g_xs g (i + 4))
  refine r_aload_n 1 dL_law_1284 rfl rfl ?_
  refine r_arg (i := i) (j := 1) rfl rfl rfl (by omega) hN2 dL_law_1285 dL_law_1286 dL_law_1288 dL_law_1289 dL_law_1290 rfl ?_
  refine r_arg (i := i) (j := 2) rfl rfl rfl (by omega) hN2 dL_law_1291 dL_law_1292 dL_law_1294 dL_law_1295 dL_law_1296 rfl ?_
  refine r_arg (i := i) (j := 3) rfl rfl rfl (by omega) hN2 dL_law_1297 dL_law_1298 dL_law_1300 dL_law_1301 dL_law_1302 rfl ?_
  refine r_arg (i := i) (j := 4) rfl rfl rfl (by omega) hN2 dL_law_1303 dL_law_1304 dL_law_1306 dL_law_1307 dL_law_1308 rfl ?_
  refine r_callV (C1 := 0) (S1 := 0) (C2 := f) (S2 := 6 * f) [.int (g_xs g (i + 1)), .int (g_xs g (i + 2)), .int (g_xs g (i + 3)), .int (g_xs g (i + 4))] [] 4 dL_law_1309 lk_L_135 md_X9_link (ci := 8) rfl rfl (by decide) (zA a_1) rfl rfl (Nat.le_of_ble_eq_true rfl) (Nat.zero_add _).symm (Nat.zero_add _).symm (cx g false (d + 18) m _ (by omega) hc (fun m1 c1 f1 => ?_))
  show WP g false (d + 19) (mL_law nm) f (6 * f) 1312 (lwls i) [.int r] (mk m1) Q
  refine r_aload_n 2 dL_law_1312 rfl rfl ?_
  refine r_arg (i := i) (j := 1) rfl rfl rfl (by omega) hN2 dL_law_1313 dL_law_1314 dL_law_1316 dL_law_1317 dL_law_1318 rfl ?_
  refine r_arg (i := i) (j := 2) rfl rfl rfl (by omega) hN2 dL_law_1319 dL_law_1320 dL_law_1322 dL_law_1323 dL_law_1324 rfl ?_
  refine r_arg (i := i) (j := 3) rfl rfl rfl (by omega) hN2 dL_law_1325 dL_law_1326 dL_law_1328 dL_law_1329 dL_law_1330 rfl ?_
  refine r_arg (i := i) (j := 4) rfl rfl rfl (by omega) hN2 dL_law_1331 dL_law_1332 dL_law_1334 dL_law_1335 dL_law_1336 rfl ?_
  refine r_callV (C1 := 0) (S1 := 0) (C2 := f) (S2 := 6 * f) [.int (g_xs g (i + 1)), .int (g_xs g (i + 2)), .int (g_xs g (i + 3)), .int (g_xs g (i + 4))] [.int r] 4 dL_law_1337 lk_L_139 md_X10_link (ci := 9) rfl rfl (by decide) (zA a_810) rfl rfl (Nat.le_of_ble_eq_true rfl) (Nat.zero_add _).symm (Nat.zero_add _).symm (mx g false (d + 18) m1 _ (by omega) (MR_fC hm f1) (fun m2 c2 f2 => ?_))
  show WP g false (d + 19) (mL_law nm) f (6 * f) 1340 (lwls i) [.int r, .int r] (mk m2) Q
  exact r_icmp_eq 1785 dL_law_1340 rfl (fun _ => K s' m2 hs' (CR_fX c1 f2) c2) (fun q => absurd rfl q)
theorem lc_paint {s : Sg} {f i : Nat} (hN2 : g_N g < 2 ^ 31) (hi : i + 6 ≤ g_N g) (hs : sOK s) (hc : CR s m) (hm : MR s m) (K : LK nm g d f i Q) : WP g false (d + 19) (mL_law nm) f (6 * f) 1345 (lwls i) [] (mk m) Q := by
  obtain ⟨s', r, hs', cx, mx⟩ := x_paint hs (g_xs g (i + 1)) (g_xs g (i + 2)) (g_xs g (i + 3))
  refine r_aload_n 1 dL_law_1345 rfl rfl ?_
  refine r_arg (i := i) (j := 1) rfl rfl rfl (by omega) hN2 dL_law_1346 dL_law_1347 dL_law_1349 dL_law_1350 dL_law_1351 rfl ?_
  refine r_arg (i := i) (j := 2) rfl rfl rfl (by omega) hN2 dL_law_1352 dL_law_1353 dL_law_1355 dL_law_1356 dL_law_1357 rfl ?_
  refine r_arg (i := i) (j := 3) rfl rfl rfl (by omega) hN2 dL_law_1358 dL_law_1359 dL_law_1361 dL_law_1362 dL_law_1363 rfl ?_
  refine r_callV (C1 := 0) (S1 := 0) (C2 := f) (S2 := 6 * f) [.int (g_xs g (i + 1)), .int (g_xs g (i + 2)), .int (g_xs g (i + 3))] [] 3 dL_law_1364 lk_L_140 md_X9_paint (ci := 8) rfl rfl (by decide) (zA a_1) rfl rfl (Nat.le_of_ble_eq_true rfl) (Nat.zero_add _).symm (Nat.zero_add _).symm (cx g false (d + 18) m _ (by omega) hc (fun m1 c1 f1 => ?_))
  show WP g false (d + 19) (mL_law nm) f (6 * f) 1367 (lwls i) [.int r] (mk m1) Q
  refine r_aload_n 2 dL_law_1367 rfl rfl ?_
  refine r_arg (i := i) (j := 1) rfl rfl rfl (by omega) hN2 dL_law_1368 dL_law_1369 dL_law_1371 dL_law_1372 dL_law_1373 rfl ?_
  refine r_arg (i := i) (j := 2) rfl rfl rfl (by omega) hN2 dL_law_1374 dL_law_1375 dL_law_1377 dL_law_1378 dL_law_1379 rfl ?_
  refine r_arg (i := i) (j := 3) rfl rfl rfl (by omega) hN2 dL_law_1380 dL_law_1381 dL_law_1383 dL_law_1384 dL_law_1385 rfl ?_
  refine r_callV (C1 := 0) (S1 := 0) (C2 := f) (S2 := 6 * f) [.int (g_xs g (i + 1)), .int (g_xs g (i + 2)), .int (g_xs g (i + 3))] [.int r] 3 dL_law_1386 lk_L_143 md_X10_paint (ci := 9) rfl rfl (by decide) (zA a_810) rfl rfl (Nat.le_of_ble_eq_true rfl) (Nat.zero_add _).symm (Nat.zero_add _).symm (mx g false (d + 18) m1 _ (by omega) (MR_fC hm f1) (fun m2 c2 f2 => ?_))
  show WP g false (d + 19) (mL_law nm) f (6 * f) 1389 (lwls i) [.int r, .int r] (mk m2) Q
  exact r_icmp_eq 1785 dL_law_1389 rfl (fun _ => K s' m2 hs' (CR_fX c1 f2) c2) (fun q => absurd rfl q)
theorem lc_swap {s : Sg} {f i : Nat} (hN2 : g_N g < 2 ^ 31) (hi : i + 6 ≤ g_N g) (hs : sOK s) (hc : CR s m) (hm : MR s m) (K : LK nm g d f i Q) : WP g false (d + 19) (mL_law nm) f (6 * f) 1394 (lwls i) [] (mk m) Q := by
  obtain ⟨s', r, hs', cx, mx⟩ := x_swap hs (g_xs g (i + 1)) (g_xs g (i + 2)) (g_xs g (i + 3))
  refine r_aload_n 1 dL_law_1394 rfl rfl ?_
  refine r_arg (i := i) (j := 1) rfl rfl rfl (by omega) hN2 dL_law_1395 dL_law_1396 dL_law_1398 dL_law_1399 dL_law_1400 rfl ?_
  refine r_arg (i := i) (j := 2) rfl rfl rfl (by omega) hN2 dL_law_1401 dL_law_1402 dL_law_1404 dL_law_1405 dL_law_1406 rfl ?_
  refine r_arg (i := i) (j := 3) rfl rfl rfl (by omega) hN2 dL_law_1407 dL_law_1408 dL_law_1410 dL_law_1411 dL_law_1412 rfl ?_
  refine r_callV (C1 := 0) (S1 := 0) (C2 := f) (S2 := 6 * f) [.int (g_xs g (i + 1)), .int (g_xs g (i + 2)), .int (g_xs g (i + 3))] [] 3 dL_law_1413 lk_L_144 md_X9_swap (ci := 8) rfl rfl (by decide) (zA a_1) rfl rfl (Nat.le_of_ble_eq_true rfl) (Nat.zero_add _).symm (Nat.zero_add _).symm (cx g false (d + 18) m _ (by omega) hc (fun m1 c1 f1 => ?_))
  show WP g false (d + 19) (mL_law nm) f (6 * f) 1416 (lwls i) [.int r] (mk m1) Q
  refine r_aload_n 2 dL_law_1416 rfl rfl ?_
  refine r_arg (i := i) (j := 1) rfl rfl rfl (by omega) hN2 dL_law_1417 dL_law_1418 dL_law_1420 dL_law_1421 dL_law_1422 rfl ?_
  refine r_arg (i := i) (j := 2) rfl rfl rfl (by omega) hN2 dL_law_1423 dL_law_1424 dL_law_1426 dL_law_1427 dL_law_1428 rfl ?_
  refine r_arg (i := i) (j := 3) rfl rfl rfl (by omega) hN2 dL_law_1429 dL_law_1430 dL_law_1432 dL_law_1433 dL_law_1434 rfl ?_
  refine r_callV (C1 := 0) (S1 := 0) (C2 := f) (S2 := 6 * f) [.int (g_xs g (i + 1)), .int (g_xs g (i + 2)), .int (g_xs g (i + 3))] [.int r] 3 dL_law_1435 lk_L_147 md_X10_swap (ci := 9) rfl rfl (by decide) (zA a_810) rfl rfl (Nat.le_of_ble_eq_true rfl) (Nat.zero_add _).symm (Nat.zero_add _).symm (mx g false (d + 18) m1 _ (by omega) (MR_fC hm f1) (fun m2 c2 f2 => ?_))
  show WP g false (d + 19) (mL_law nm) f (6 * f) 1438 (lwls i) [.int r, .int r] (mk m2) Q
  exact r_icmp_eq 1785 dL_law_1438 rfl (fun _ => K s' m2 hs' (CR_fX c1 f2) c2) (fun q => absurd rfl q)
theorem lc_shuffle {s : Sg} {f i : Nat} (hN2 : g_N g < 2 ^ 31) (hi : i + 6 ≤ g_N g) (hs : sOK s) (hc : CR s m) (hm : MR s m) (K : LK nm g d f i Q) : WP g false (d + 19) (mL_law nm) f (6 * f) 1443 (lwls i) [] (mk m) Q := by
  obtain ⟨s', r, hs', cx, mx⟩ := x_shuffle hs (g_xs g (i + 1)) (g_xs g (i + 2))
  refine r_aload_n 1 dL_law_1443 rfl rfl ?_
  refine r_arg (i := i) (j := 1) rfl rfl rfl (by omega) hN2 dL_law_1444 dL_law_1445 dL_law_1447 dL_law_1448 dL_law_1449 rfl ?_
  refine r_arg (i := i) (j := 2) rfl rfl rfl (by omega) hN2 dL_law_1450 dL_law_1451 dL_law_1453 dL_law_1454 dL_law_1455 rfl ?_
  refine r_callV (C1 := 0) (S1 := 0) (C2 := f) (S2 := 6 * f) [.int (g_xs g (i + 1)), .int (g_xs g (i + 2))] [] 2 dL_law_1456 lk_L_148 md_X9_shuffle (ci := 8) rfl rfl (by decide) (zA a_1) rfl rfl (Nat.le_of_ble_eq_true rfl) (Nat.zero_add _).symm (Nat.zero_add _).symm (cx g false (d + 18) m _ (by omega) hc (fun m1 c1 f1 => ?_))
  show WP g false (d + 19) (mL_law nm) f (6 * f) 1459 (lwls i) [.int r] (mk m1) Q
  refine r_aload_n 2 dL_law_1459 rfl rfl ?_
  refine r_arg (i := i) (j := 1) rfl rfl rfl (by omega) hN2 dL_law_1460 dL_law_1461 dL_law_1463 dL_law_1464 dL_law_1465 rfl ?_
  refine r_arg (i := i) (j := 2) rfl rfl rfl (by omega) hN2 dL_law_1466 dL_law_1467 dL_law_1469 dL_law_1470 dL_law_1471 rfl ?_
  refine r_callV (C1 := 0) (S1 := 0) (C2 := f) (S2 := 6 * f) [.int (g_xs g (i + 1)), .int (g_xs g (i + 2))] [.int r] 2 dL_law_1472 lk_L_151 md_X10_shuffle (ci := 9) rfl rfl (by decide) (zA a_810) rfl rfl (Nat.le_of_ble_eq_true rfl) (Nat.zero_add _).symm (Nat.zero_add _).symm (mx g false (d + 18) m1 _ (by omega) (MR_fC hm f1) (fun m2 c2 f2 => ?_))
  show WP g false (d + 19) (mL_law nm) f (6 * f) 1475 (lwls i) [.int r, .int r] (mk m2) Q
  exact r_icmp_eq 1785 dL_law_1475 rfl (fun _ => K s' m2 hs' (CR_fX c1 f2) c2) (fun q => absurd rfl q)
theorem lc_copy {s : Sg} {f i : Nat} (hN2 : g_N g < 2 ^ 31) (hi : i + 6 ≤ g_N g) (hs : sOK s) (hc : CR s m) (hm : MR s m) (K : LK nm g d f i Q) : WP g false (d + 19) (mL_law nm) f (6 * f) 1480 (lwls i) [] (mk m) Q := by
  obtain ⟨s', r, hs', cx, mx⟩ := x_copy hs (g_xs g (i + 1)) (g_xs g (i + 2))
  refine r_aload_n 1 dL_law_1480 rfl rfl ?_
  refine r_arg (i := i) (j := 1) rfl rfl rfl (by omega) hN2 dL_law_1481 dL_law_1482 dL_law_1484 dL_law_1485 dL_law_1486 rfl ?_
  refine r_arg (i := i) (j := 2) rfl rfl rfl (by omega) hN2 dL_law_1487 dL_law_1488 dL_law_1490 dL_law_1491 dL_law_1492 rfl ?_
  refine r_callV (C1 := 0) (S1 := 0) (C2 := f) (S2 := 6 * f) [.int (g_xs g (i + 1)), .int (g_xs g (i + 2))] [] 2 dL_law_1493 lk_L_152 md_X9_copy (ci := 8) rfl rfl (by decide) (zA a_1) rfl rfl (Nat.le_of_ble_eq_true rfl) (Nat.zero_add _).symm (Nat.zero_add _).symm (cx g false (d + 18) m _ (by omega) hc (fun m1 c1 f1 => ?_))
  show WP g false (d + 19) (mL_law nm) f (6 * f) 1496 (lwls i) [.int r] (mk m1) Q
  refine r_aload_n 2 dL_law_1496 rfl rfl ?_
  refine r_arg (i := i) (j := 1) rfl rfl rfl (by omega) hN2 dL_law_1497 dL_law_1498 dL_law_1500 dL_law_1501 dL_law_1502 rfl ?_
  refine r_arg (i := i) (j := 2) rfl rfl rfl (by omega) hN2 dL_law_1503 dL_law_1504 dL_law_1506 dL_law_1507 dL_law_1508 rfl ?_
  refine r_callV (C1 := 0) (S1 := 0) (C2 := f) (S2 := 6 * f) [.int (g_xs g (i + 1)), .int (g_xs g (i + 2))] [.int r] 2 dL_law_1509 lk_L_155 md_X10_copy (ci := 9) rfl rfl (by decide) (zA a_810) rfl rfl (Nat.le_of_ble_eq_true rfl) (Nat.zero_add _).symm (Nat.zero_add _).symm (mx g false (d + 18) m1 _ (by omega) (MR_fC hm f1) (fun m2 c2 f2 => ?_))
  show WP g false (d + 19) (mL_law nm) f (6 * f) 1512 (lwls i) [.int r, .int r] (mk m2) Q
  exact r_icmp_eq 1785 dL_law_1512 rfl (fun _ => K s' m2 hs' (CR_fX c1 f2) c2) (fun q => absurd rfl q)
theorem lc_turn {s : Sg} {f i : Nat} (hN2 : g_N g < 2 ^ 31) (hi : i + 6 ≤ g_N g) (hs : sOK s) (hc : CR s m) (hm : MR s m) (K : LK nm g d f i Q) : WP g false (d + 19) (mL_law nm) f (6 * f) 1517 (lwls i) [] (mk m) Q := by
  obtain ⟨s', r, hs', cx, mx⟩ := x_turn hs (g_xs g (i + 1))
  refine r_aload_n 1 dL_law_1517 rfl rfl ?_
  refine r_arg (i := i) (j := 1) rfl rfl rfl (by omega) hN2 dL_law_1518 dL_law_1519 dL_law_1521 dL_law_1522 dL_law_1523 rfl ?_
  refine r_callV (C1 := 0) (S1 := 0) (C2 := f) (S2 := 6 * f) [.int (g_xs g (i + 1))] [] 1 dL_law_1524 lk_L_156 md_X9_turn (ci := 8) rfl rfl (by decide) (zA a_1) rfl rfl (Nat.le_of_ble_eq_true rfl) (Nat.zero_add _).symm (Nat.zero_add _).symm (cx g false (d + 18) m _ (by omega) hc (fun m1 c1 f1 => ?_))
  show WP g false (d + 19) (mL_law nm) f (6 * f) 1527 (lwls i) [.int r] (mk m1) Q
  refine r_aload_n 2 dL_law_1527 rfl rfl ?_
  refine r_arg (i := i) (j := 1) rfl rfl rfl (by omega) hN2 dL_law_1528 dL_law_1529 dL_law_1531 dL_law_1532 dL_law_1533 rfl ?_
  refine r_callV (C1 := 0) (S1 := 0) (C2 := f) (S2 := 6 * f) [.int (g_xs g (i + 1))] [.int r] 1 dL_law_1534 lk_L_159 md_X10_turn (ci := 9) rfl rfl (by decide) (zA a_810) rfl rfl (Nat.le_of_ble_eq_true rfl) (Nat.zero_add _).symm (Nat.zero_add _).symm (mx g false (d + 18) m1 _ (by omega) (MR_fC hm f1) (fun m2 c2 f2 => ?_))
  show WP g false (d + 19) (mL_law nm) f (6 * f) 1537 (lwls i) [.int r, .int r] (mk m2) Q
  exact r_icmp_eq 1785 dL_law_1537 rfl (fun _ => K s' m2 hs' (CR_fX c1 f2) c2) (fun q => absurd rfl q)
theorem lc_drop {s : Sg} {f i : Nat} (hN2 : g_N g < 2 ^ 31) (hi : i + 6 ≤ g_N g) (hs : sOK s) (hc : CR s m) (hm : MR s m) (K : LK nm g d f i Q) : WP g false (d + 19) (mL_law nm) f (6 * f) 1542 (lwls i) [] (mk m) Q := by
  obtain ⟨s', r, hs', cx, mx⟩ := x_drop hs (g_xs g (i + 1)) (g_xs g (i + 2))
  refine r_aload_n 1 dL_law_1542 rfl rfl ?_
  refine r_arg (i := i) (j := 1) rfl rfl rfl (by omega) hN2 dL_law_1543 dL_law_1544 dL_law_1546 dL_law_1547 dL_law_1548 rfl ?_
  refine r_arg (i := i) (j := 2) rfl rfl rfl (by omega) hN2 dL_law_1549 dL_law_1550 dL_law_1552 dL_law_1553 dL_law_1554 rfl ?_
  refine r_callV (C1 := 0) (S1 := 0) (C2 := f) (S2 := 6 * f) [.int (g_xs g (i + 1)), .int (g_xs g (i + 2))] [] 2 dL_law_1555 lk_L_160 md_X9_drop (ci := 8) rfl rfl (by decide) (zA a_1) rfl rfl (Nat.le_of_ble_eq_true rfl) (Nat.zero_add _).symm (Nat.zero_add _).symm (cx g false (d + 18) m _ (by omega) hc (fun m1 c1 f1 => ?_))
  show WP g false (d + 19) (mL_law nm) f (6 * f) 1558 (lwls i) [.int r] (mk m1) Q
  refine r_aload_n 2 dL_law_1558 rfl rfl ?_
  refine r_arg (i := i) (j := 1) rfl rfl rfl (by omega) hN2 dL_law_1559 dL_law_1560 dL_law_1562 dL_law_1563 dL_law_1564 rfl ?_
  refine r_arg (i := i) (j := 2) rfl rfl rfl (by omega) hN2 dL_law_1565 dL_law_1566 dL_law_1568 dL_law_1569 dL_law_1570 rfl ?_
  refine r_callV (C1 := 0) (S1 := 0) (C2 := f) (S2 := 6 * f) [.int (g_xs g (i + 1)), .int (g_xs g (i + 2))] [.int r] 2 dL_law_1571 lk_L_163 md_X10_drop (ci := 9) rfl rfl (by decide) (zA a_810) rfl rfl (Nat.le_of_ble_eq_true rfl) (Nat.zero_add _).symm (Nat.zero_add _).symm (mx g false (d + 18) m1 _ (by omega) (MR_fC hm f1) (fun m2 c2 f2 => ?_))
  show WP g false (d + 19) (mL_law nm) f (6 * f) 1574 (lwls i) [.int r, .int r] (mk m2) Q
  exact r_icmp_eq 1785 dL_law_1574 rfl (fun _ => K s' m2 hs' (CR_fX c1 f2) c2) (fun q => absurd rfl q)
theorem lc_grow {s : Sg} {f i : Nat} (hN2 : g_N g < 2 ^ 31) (hi : i + 6 ≤ g_N g) (hs : sOK s) (hc : CR s m) (hm : MR s m) (K : LK nm g d f i Q) : WP g false (d + 19) (mL_law nm) f (6 * f) 1579 (lwls i) [] (mk m) Q := by
  obtain ⟨s', r, hs', cx, mx⟩ := x_grow hs (g_xs g (i + 1)) (g_xs g (i + 2)) (g_xs g (i + 3))
  refine r_aload_n 1 dL_law_1579 rfl rfl ?_
  refine r_arg (i := i) (j := 1) rfl rfl rfl (by omega) hN2 dL_law_1580 dL_law_1581 dL_law_1583 dL_law_1584 dL_law_1585 rfl ?_
  refine r_arg (i := i) (j := 2) rfl rfl rfl (by omega) hN2 dL_law_1586 dL_law_1587 dL_law_1589 dL_law_1590 dL_law_1591 rfl ?_
  refine r_arg (i := i) (j := 3) rfl rfl rfl (by omega) hN2 dL_law_1592 dL_law_1593 dL_law_1595 dL_law_1596 dL_law_1597 rfl ?_
  refine r_callV (C1 := 0) (S1 := 0) (C2 := f) (S2 := 6 * f) [.int (g_xs g (i + 1)), .int (g_xs g (i + 2)), .int (g_xs g (i + 3))] [] 3 dL_law_1598 lk_L_164 md_X9_grow (ci := 8) rfl rfl (by decide) (zA a_1) rfl rfl (Nat.le_of_ble_eq_true rfl) (Nat.zero_add _).symm (Nat.zero_add _).symm (cx g false (d + 18) m _ (by omega) hc (fun m1 c1 f1 => ?_))
  show WP g false (d + 19) (mL_law nm) f (6 * f) 1601 (lwls i) [.int r] (mk m1) Q
  refine r_aload_n 2 dL_law_1601 rfl rfl ?_
  refine r_arg (i := i) (j := 1) rfl rfl rfl (by omega) hN2 dL_law_1602 dL_law_1603 dL_law_1605 dL_law_1606 dL_law_1607 rfl ?_
  refine r_arg (i := i) (j := 2) rfl rfl rfl (by omega) hN2 dL_law_1608 dL_law_1609 dL_law_1611 dL_law_1612 dL_law_1613 rfl ?_
  refine r_arg (i := i) (j := 3) rfl rfl rfl (by omega) hN2 dL_law_1614 dL_law_1615 dL_law_1617 dL_law_1618 dL_law_1619 rfl ?_
  refine r_callV (C1 := 0) (S1 := 0) (C2 := f) (S2 := 6 * f) [.int (g_xs g (i + 1)), .int (g_xs g (i + 2)), .int (g_xs g (i + 3))] [.int r] 3 dL_law_1620 lk_L_167 md_X10_grow (ci := 9) rfl rfl (by decide) (zA a_810) rfl rfl (Nat.le_of_ble_eq_true rfl) (Nat.zero_add _).symm (Nat.zero_add _).symm (mx g false (d + 18) m1 _ (by omega) (MR_fC hm f1) (fun m2 c2 f2 => ?_))
  show WP g false (d + 19) (mL_law nm) f (6 * f) 1623 (lwls i) [.int r, .int r] (mk m2) Q
  exact r_icmp_eq 1785 dL_law_1623 rfl (fun _ => K s' m2 hs' (CR_fX c1 f2) c2) (fun q => absurd rfl q)
theorem lc_undo {s : Sg} {f i : Nat} (hN2 : g_N g < 2 ^ 31) (hi : i + 6 ≤ g_N g) (hs : sOK s) (hc : CR s m) (hm : MR s m) (K : LK nm g d f i Q) : WP g false (d + 19) (mL_law nm) f (6 * f) 1628 (lwls i) [] (mk m) Q := by
  obtain ⟨s', r, hs', cx, mx⟩ := x_undo hs
  refine r_aload_n 1 dL_law_1628 rfl rfl ?_
  refine r_callV (C1 := 0) (S1 := 0) (C2 := f) (S2 := 6 * f) [] [] 0 dL_law_1629 lk_L_168 md_X9_undo (ci := 8) rfl rfl (by decide) (zA a_1) rfl rfl (Nat.le_of_ble_eq_true rfl) (Nat.zero_add _).symm (Nat.zero_add _).symm (cx g false (d + 18) m _ (by omega) hc (fun m1 c1 f1 => ?_))
  show WP g false (d + 19) (mL_law nm) f (6 * f) 1632 (lwls i) [.int r] (mk m1) Q
  refine r_aload_n 2 dL_law_1632 rfl rfl ?_
  refine r_callV (C1 := 0) (S1 := 0) (C2 := f) (S2 := 6 * f) [] [.int r] 0 dL_law_1633 lk_L_171 md_X10_undo (ci := 9) rfl rfl (by decide) (zA a_810) rfl rfl (Nat.le_of_ble_eq_true rfl) (Nat.zero_add _).symm (Nat.zero_add _).symm (mx g false (d + 18) m1 _ (by omega) (MR_fC hm f1) (fun m2 c2 f2 => ?_))
  show WP g false (d + 19) (mL_law nm) f (6 * f) 1636 (lwls i) [.int r, .int r] (mk m2) Q
  exact r_icmp_eq 1785 dL_law_1636 rfl (fun _ => K s' m2 hs' (CR_fX c1 f2) c2) (fun q => absurd rfl q)
theorem lc_image {s : Sg} {f i : Nat} (hN2 : g_N g < 2 ^ 31) (hi : i + 6 ≤ g_N g) (hs : sOK s) (hc : CR s m) (hm : MR s m) (K : LK nm g d f i Q) : WP g false (d + 19) (mL_law nm) f (6 * f) 1641 (lwls i) [] (mk m) Q := by
  obtain ⟨s', r, hs', cx, mx⟩ := x_image hs (g_xs g (i + 1))
  refine r_aload_n 1 dL_law_1641 rfl rfl ?_
  refine r_arg (i := i) (j := 1) rfl rfl rfl (by omega) hN2 dL_law_1642 dL_law_1643 dL_law_1645 dL_law_1646 dL_law_1647 rfl ?_
  refine r_callV (C1 := 0) (S1 := 0) (C2 := f) (S2 := 6 * f) [.int (g_xs g (i + 1))] [] 1 dL_law_1648 lk_L_172 md_X9_image (ci := 8) rfl rfl (by decide) (zA a_1) rfl rfl (Nat.le_of_ble_eq_true rfl) (Nat.zero_add _).symm (Nat.zero_add _).symm (cx g false (d + 18) m _ (by omega) hc (fun m1 c1 f1 => ?_))
  show WP g false (d + 19) (mL_law nm) f (6 * f) 1651 (lwls i) [.int r] (mk m1) Q
  refine r_aload_n 2 dL_law_1651 rfl rfl ?_
  refine r_arg (i := i) (j := 1) rfl rfl rfl (by omega) hN2 dL_law_1652 dL_law_1653 dL_law_1655 dL_law_1656 dL_law_1657 rfl ?_
  refine r_callV (C1 := 0) (S1 := 0) (C2 := f) (S2 := 6 * f) [.int (g_xs g (i + 1))] [.int r] 1 dL_law_1658 lk_L_176 md_X10_image (ci := 9) rfl rfl (by decide) (zA a_810) rfl rfl (Nat.le_of_ble_eq_true rfl) (Nat.zero_add _).symm (Nat.zero_add _).symm (mx g false (d + 18) m1 _ (by omega) (MR_fC hm f1) (fun m2 c2 f2 => ?_))
  show WP g false (d + 19) (mL_law nm) f (6 * f) 1661 (lwls i) [.int r, .int r] (mk m2) Q
  exact r_icmp_eq 1785 dL_law_1661 rfl (fun _ => K s' m2 hs' (CR_fX c1 f2) c2) (fun q => absurd rfl q)
theorem lc_again {s : Sg} {f i : Nat} (hN2 : g_N g < 2 ^ 31) (hi : i + 6 ≤ g_N g) (hs : sOK s) (hc : CR s m) (hm : MR s m) (K : LK nm g d f i Q) : WP g false (d + 19) (mL_law nm) f (6 * f) 1666 (lwls i) [] (mk m) Q := by
  obtain ⟨s', r, hs', cx, mx⟩ := x_again hs (g_xs g (i + 1))
  refine r_aload_n 1 dL_law_1666 rfl rfl ?_
  refine r_arg (i := i) (j := 1) rfl rfl rfl (by omega) hN2 dL_law_1667 dL_law_1668 dL_law_1670 dL_law_1671 dL_law_1672 rfl ?_
  refine r_callV (C1 := 0) (S1 := 0) (C2 := f) (S2 := 6 * f) [.int (g_xs g (i + 1))] [] 1 dL_law_1673 lk_L_177 md_X9_again (ci := 8) rfl rfl (by decide) (zA a_1) rfl rfl (Nat.le_of_ble_eq_true rfl) (Nat.zero_add _).symm (Nat.zero_add _).symm (cx g false (d + 18) m _ (by omega) hc (fun m1 c1 f1 => ?_))
  show WP g false (d + 19) (mL_law nm) f (6 * f) 1676 (lwls i) [.int r] (mk m1) Q
  refine r_aload_n 2 dL_law_1676 rfl rfl ?_
  refine r_arg (i := i) (j := 1) rfl rfl rfl (by omega) hN2 dL_law_1677 dL_law_1678 dL_law_1680 dL_law_1681 dL_law_1682 rfl ?_
  refine r_callV (C1 := 0) (S1 := 0) (C2 := f) (S2 := 6 * f) [.int (g_xs g (i + 1))] [.int r] 1 dL_law_1683 lk_L_180 md_X10_again (ci := 9) rfl rfl (by decide) (zA a_810) rfl rfl (Nat.le_of_ble_eq_true rfl) (Nat.zero_add _).symm (Nat.zero_add _).symm (mx g false (d + 18) m1 _ (by omega) (MR_fC hm f1) (fun m2 c2 f2 => ?_))
  show WP g false (d + 19) (mL_law nm) f (6 * f) 1686 (lwls i) [.int r, .int r] (mk m2) Q
  exact r_icmp_eq 1785 dL_law_1686 rfl (fun _ => K s' m2 hs' (CR_fX c1 f2) c2) (fun q => absurd rfl q)
theorem lc_size {s : Sg} {f i : Nat} (hN2 : g_N g < 2 ^ 31) (hi : i + 6 ≤ g_N g) (hs : sOK s) (hc : CR s m) (hm : MR s m) (K : LK nm g d f i Q) : WP g false (d + 19) (mL_law nm) f (6 * f) 1759 (lwls i) [] (mk m) Q := by
  obtain ⟨s', r, hs', cx, mx⟩ := x_size hs
  refine r_aload_n 1 dL_law_1759 rfl rfl ?_
  refine r_callV (C1 := 0) (S1 := 0) (C2 := f) (S2 := 6 * f) [] [] 0 dL_law_1760 lk_L_190 md_X9_size (ci := 8) rfl rfl (by decide) (zA a_1) rfl rfl (Nat.le_of_ble_eq_true rfl) (Nat.zero_add _).symm (Nat.zero_add _).symm (cx g false (d + 18) m _ (by omega) hc (fun m1 c1 f1 => ?_))
  show WP g false (d + 19) (mL_law nm) f (6 * f) 1763 (lwls i) [.int r] (mk m1) Q
  refine r_aload_n 2 dL_law_1763 rfl rfl ?_
  refine r_callV (C1 := 0) (S1 := 0) (C2 := f) (S2 := 6 * f) [] [.int r] 0 dL_law_1764 lk_L_193 md_X10_size (ci := 9) rfl rfl (by decide) (zA a_810) rfl rfl (Nat.le_of_ble_eq_true rfl) (Nat.zero_add _).symm (Nat.zero_add _).symm (mx g false (d + 18) m1 _ (by omega) (MR_fC hm f1) (fun m2 c2 f2 => ?_))
  show WP g false (d + 19) (mL_law nm) f (6 * f) 1767 (lwls i) [.int r, .int r] (mk m2) Q
  exact r_icmp_eq 1785 dL_law_1767 rfl (fun _ => K s' m2 hs' (CR_fX c1 f2) c2) (fun q => absurd rfl q)
theorem lc_trouble {s : Sg} {f i : Nat} (hN2 : g_N g < 2 ^ 31) (hi : i + 6 ≤ g_N g) (hs : sOK s) (hc : CR s m) (hm : MR s m) (K : LK nm g d f i Q) : WP g false (d + 19) (mL_law nm) f (6 * f) 1772 (lwls i) [] (mk m) Q := by
  obtain ⟨s', r, hs', cx, mx⟩ := x_trouble hs
  refine r_aload_n 1 dL_law_1772 rfl rfl ?_
  refine r_callV (C1 := 0) (S1 := 0) (C2 := f) (S2 := 6 * f) [] [] 0 dL_law_1773 lk_L_194 md_X9_trouble (ci := 8) rfl rfl (by decide) (zA a_1) rfl rfl (Nat.le_of_ble_eq_true rfl) (Nat.zero_add _).symm (Nat.zero_add _).symm (cx g false (d + 18) m _ (by omega) hc (fun m1 c1 f1 => ?_))
  show WP g false (d + 19) (mL_law nm) f (6 * f) 1776 (lwls i) [.int r] (mk m1) Q
  refine r_aload_n 2 dL_law_1776 rfl rfl ?_
  refine r_callV (C1 := 0) (S1 := 0) (C2 := f) (S2 := 6 * f) [] [.int r] 0 dL_law_1777 lk_L_197 md_X10_trouble (ci := 9) rfl rfl (by decide) (zA a_810) rfl rfl (Nat.le_of_ble_eq_true rfl) (Nat.zero_add _).symm (Nat.zero_add _).symm (mx g false (d + 18) m1 _ (by omega) (MR_fC hm f1) (fun m2 c2 f2 => ?_))
  show WP g false (d + 19) (mL_law nm) f (6 * f) 1780 (lwls i) [.int r, .int r] (mk m2) Q
  exact r_icmp_eq 1785 dL_law_1780 rfl (fun _ => K s' m2 hs' (CR_fX c1 f2) c2) (fun q => absurd rfl q)
theorem lc_same (x : Int64) : lg_cmp x x = 0 := by
  have h : ¬ x > x := by simp [gt_iff_lt, Int64.lt_iff_toInt_lt]
  unfold lg_cmp
  rw [if_neg h, if_pos rfl]
theorem d_rowB {s : Sg} {e : Nat} {gr : Bool} {l1 l2 : Int32} (he : 4 ≤ e) (hs : sOK s) (hm : MR s m) (hb : ∀ w, w < 3 → l1 = nI w → l2 < 0 ∨ (¬ l2 < 0 ∧ nI (gn (y_W s w)) ≤ l2)) (K : ∀ m', MR s m' → m'.1 810 0 = 1 → fX m m' → Q (some (.int 0)) (mk m')) : Ok g gr e mX10_row 0 0 [.ref 810, .int l1, .int l2] (mk m) Q := by
  obtain ⟨d, rfl⟩ := dn he
  have f0 : fM [0] [] m (wI m 810 0 (0 : Int32)) := fM_f
  have h1 := MR_fM hm f0
  have bad : Q (some (.int 0)) (mk (wI (wI m 810 0 (0 : Int32)) 810 0 (1 : Int32))) := K _ (MR_fM h1 (F := [0]) (A := []) fM_f) rI_s (fX_trans (fX_fM f0) fX_w)
  refine b_X10_row_0 (d := d + 1) ?_
  rintro m1 rfl
  rcases i_case l1 3 (by decide) with h | ⟨w, hw, rfl⟩
  · exact ite_n (isG_n h) bad
  · refine ite_y (isG_y hw) ?_
    rw [e57, c57 hw]
    exact ⟨v57 hw, ite_n (in1_n (hb w hw rfl) (h1.1 w hw).1 (by have := (hs.1 w hw).2.1.2; omega)) bad⟩
theorem d_rowG {s : Sg} {e : Nat} {gr : Bool} {w v : Nat} (he : 4 ≤ e) (hs : sOK s) (hm : MR s m) (hw : w < 3) (hv : v < gn (y_W s w)) (K : ∀ m', MR s m' → m'.1 810 0 = 0 → fX m m' → Q (some (.int (nI (bm (fun b => lk 0 (gk (y_W s w) v b)) (gn (y_W s w)))))) (mk m')) : Ok g gr e mX10_row 0 0 [.ref 810, .int (nI w), .int (nI v)] (mk m) Q := by
  obtain ⟨d, rfl⟩ := dn he
  have f0 : fM [0] [] m (wI m 810 0 (0 : Int32)) := fM_f
  have h1 := MR_fM hm f0
  refine b_X10_row_0 (d := d + 1) ?_
  rintro m1 rfl
  refine ite_y (isG_y hw) ?_
  rw [e57, c57 hw]
  refine ⟨v57 hw, ite_y (in1_y hv (h1.1 w hw).1 (by have := (hs.1 w hw).2.1.2; omega)) (d_rowOf (by omega) (hs.1 w hw) hw (h1.1 w hw) hv (b_X10_row_27 ?_))⟩
  exact K _ h1 rI_s (fX_fM f0)
theorem CR_841 {s : Sg} {v : Int64} (h : CR s m) : CR s (wL m 841 0 v) := ⟨h.1, CS_eq h.2 fun a ha => ⟨rfl, funext fun k => rL_n (fun q => by omega)⟩⟩
theorem MR_841 {s : Sg} {v : Int64} (h : MR s m) : MR s (wL m 841 0 v) := h
theorem bm_row {G : Gr} (hG : gWF G) (v : Nat) : bm (fun b => lk 0 (gk G v b)) 7 = bm (fun b => lk 0 (gk G v b)) (gn G) := by
  rw [bm_w hG.2.1.2]
  refine bm_cong fun i _ => ?_
  by_cases z : i < gn G
  · simp [z]
  · rw [lk_out hG 0 v (by omega)]; simp
theorem lc_row {s : Sg} {f i : Nat} (hst : (g_l g).stackTraces = false) (hN2 : g_N g < 2 ^ 31) (hi : i + 6 ≤ g_N g) (hs : sOK s) (hc : CR s m) (hm : MR s m) (K : LK nm g d f i Q) : WP g false (d + 19) (mL_law nm) (f + 1) (6 * (f + 1)) 1691 (lwls i) [] (mk m) Q := by
  have fin : ∀ (x y : Int32) (m' : zm), CR s m' → MR s m' → WP g false (d + 19) (mL_law nm) f (6 * f) 1785 [.ref 0, .ref 1, .ref 810, .ref 841, .int (nI i), .int x, .int y] [] (mk m') Q := fun x y m' a b => r_forget [true, true, true, true, true, false, false] (ls' := lwls i) rfl (K s m' hs a b)
  -- what the model's part comes to
  have mdl : ∀ (x : Int32) (m1 : zm), CR s m1 → MR s m1 → ((x = 1 ∧ ∀ w, w < 3 → g_xs g (i + 1) = nI w → g_xs g (i + 2) < 0 ∨ (¬ g_xs g (i + 2) < 0 ∧ nI (gn (y_W s w)) ≤ g_xs g (i + 2))) ∨ (x = 0 ∧ ∃ w v, w < 3 ∧ v < gn (y_W s w) ∧ g_xs g (i + 1) = nI w ∧ g_xs g (i + 2) = nI v ∧ m1.2 841 0 = (nI (bm (fun b => lk 0 (gk (y_W s w) v b)) (gn (y_W s w)))).toInt64)) → WP g false (d + 19) (mL_law nm) f (6 * f) 1708 (lwls i) [.int x] (mk m1) Q := by
    intro x m1 hc1 hm1 hx
    refine r_istore dL_law_1708 (Nat.le_of_ble_eq_true rfl) rfl (r_aload_n 2 dL_law_1710 rfl rfl ?_)
    refine r_arg (i := i) (j := 1) rfl rfl rfl (by omega) hN2 dL_law_1711 dL_law_1712 dL_law_1714 dL_law_1715 dL_law_1716 rfl ?_
    refine r_arg (i := i) (j := 2) rfl rfl rfl (by omega) hN2 dL_law_1717 dL_law_1718 dL_law_1720 dL_law_1721 dL_law_1722 rfl ?_
    have go : ∀ (y : Int32) (m2 : zm), CR s m2 → MR s m2 → m2.1 810 0 = x → (x = 0 → m2.2 841 0 = y.toInt64) → WP g false (d + 19) (mL_law nm) f (6 * f) 1726 [.ref 0, .ref 1, .ref 810, .ref 841, .int (nI i), .int x, .retAddr 0] [.int y] (mk m2) Q := by
      intro y m2 hc2 hm2 h0 hy
      refine r_istore dL_law_1726 (Nat.le_of_ble_eq_true rfl) rfl (r_aload_n 2 dL_law_1728 rfl rfl (r_callV (C1 := 0) (S1 := 0) (C2 := f) (S2 := 6 * f) [] [] 0 dL_law_1729 lk_L_187 md_X10_thrown (ci := 9) rfl rfl (by decide) (zA a_810) rfl rfl (Nat.le_of_ble_eq_true rfl) (Nat.zero_add _).symm (Nat.zero_add _).symm (b_X10_thrown_0 (d := d + 18) ?_)))
      rw [h0]
      show WP g false (d + 19) (mL_law nm) f (6 * f) 1732 [.ref 0, .ref 1, .ref 810, .ref 841, .int (nI i), .int x, .int y] [.int x] (mk m2) Q
      refine r_iload dL_law_1732 rfl (r_icmp_eq 1739 dL_law_1734 rfl (fun _ => ?_) (fun q => absurd rfl q))
      refine r_iload dL_law_1739 rfl (r_if_ne 1756 dL_law_1741 rfl (fun _ => ?_) (fun z => ?_))
      · exact r_goto 1785 dL_law_1756 rfl (fin x y m2 hc2 hm2)
      · refine r_aload_n 3 dL_law_1744 rfl rfl (r_iconst 0 dL_law_1745 rfl (q_laload 0 dL_law_1746 a_841 (pk_in 0 1 (by decide)) rfl ?_))
        rw [hy z]
        refine r_iload dL_law_1747 rfl (r_i2l dL_law_1749 (r_lcmp dL_law_1750 (r_if_eq 1756 dL_law_1751 rfl (fun _ => ?_) (fun q => absurd (lc_same _) q))))
        exact r_goto 1785 dL_law_1756 rfl (fin x y m2 hc2 hm2)
    refine r_callV (C1 := 0) (S1 := 0) (C2 := f) (S2 := 6 * f) [.int (g_xs g (i + 1)), .int (g_xs g (i + 2))] [] 2 dL_law_1723 lk_L_186 md_X10_row (ci := 9) rfl rfl (by decide) (zA a_810) rfl rfl (Nat.le_of_ble_eq_true rfl) (Nat.zero_add _).symm (Nat.zero_add _).symm ?_
    rcases hx with ⟨rfl, hb⟩ | ⟨rfl, w, v, hw, hv, e1, e2, e3⟩
    · exact d_rowB (e := d + 18) (by omega) hs hm1 hb (fun m2 h2 e0 f2 => go 0 m2 (CR_fX hc1 f2) h2 e0 (fun z => absurd z (by decide)))
    · rw [e1, e2]
      exact d_rowG (e := d + 18) (by omega) hs hm1 hw hv (fun m2 h2 e0 f2 => go _ m2 (CR_fX hc1 f2) h2 e0 (fun _ => by rw [(f2 841 (Or.inr (by decide))).2]; exact e3))
  refine r_aload_n 1 dL_law_1691 rfl rfl ?_
  refine r_arg (i := i) (j := 1) rfl rfl rfl (by omega) hN2 dL_law_1692 dL_law_1693 dL_law_1695 dL_law_1696 dL_law_1697 rfl ?_
  refine r_arg (i := i) (j := 2) rfl rfl rfl (by omega) hN2 dL_law_1698 dL_law_1699 dL_law_1701 dL_law_1702 dL_law_1703 rfl ?_
  refine r_aload_n 3 dL_law_1704 rfl rfl (r_callR (C1 := 1) (S1 := 6) (C2 := f) (S2 := 6 * f) [.ref 1, .int (g_xs g (i + 1)), .int (g_xs g (i + 2)), .ref 841] [] dL_law_1705 lk_lrowL rfl rfl (Nat.le_of_ble_eq_true rfl) (Nat.add_comm _ _) (by omega) (k_lrow (d := d + 18) hst (by omega) ?_))
  rcases i_case (g_xs g (i + 1)) 3 (by decide) with h | ⟨w, hw, ew⟩
  · refine rg_n h (mdl 1 m hc hm (Or.inl ⟨rfl, fun w hw e => ?_⟩))
    exfalso
    rw [e] at h
    rcases h with z | ⟨z, y⟩
    · exact i_nn (by omega) z
    · exact nI_ge (a := w) (b := 3) hw (by decide) y
  · rw [ew]
    have hG := hs.1 w hw
    have h7 := hG.2.1.2
    refine rg_y hw ⟨pk_in w 3 hw, ?_⟩
    rw [cw (show w < 2 ^ 31 by omega)]
    rcases i_case (g_xs g (i + 2)) (gn (y_W s w)) (by omega) with h2 | ⟨v, hv, ev⟩
    · refine ite_n (has_n h2 (W_n hc hw)) (mdl 1 m hc hm (Or.inl ⟨rfl, fun w' hw' e => ?_⟩))
      have : w = w' := (nI_eq (by omega) (by omega)).mp (ew.symm.trans e)
      subst this
      exact h2
    · rw [ev]
      refine ite_y (has_y hv (W_n hc hw)) ⟨pk_in v 7 (by omega), ?_⟩
      have er := (hc.1.1 w hw).2.2.2 0 v (by decide) (by omega)
      rw [Nat.add_zero] at er
      rw [cw (show v < 2 ^ 31 by omega), er, bm_row hG]
      exact mdl 0 _ (CR_841 hc) (MR_841 hm) (Or.inr ⟨rfl, w, v, hw, hv, ew, ev, rL_s⟩)
theorem lw_cond {N i : Nat} (hN : N ≤ 3072) (hi : i ≤ 4000) : (nI N - (6 : Int32) < nI i) ↔ N < i + 6 := by
  rw [Int32.lt_iff_toInt_lt, show (6 : Int32) = nI 6 from rfl, pk_sub_toInt (by omega) (by decide), nI_toInt (by omega)]
  omega
theorem law_loop (hst : (g_l g).stackTraces = false) (hN : g_N g ≤ 3072) (hQ : ∀ h2, Q (some (.int 1)) h2) : ∀ (f i : Nat) (s : Sg) (m : zm), g_N g < i + 6 * f + 6 → i ≤ 3600 → sOK s → CR s m → MR s m → WP g false (d + 19) (mL_law nm) f (6 * f) 23 (lwls i) [] (mk m) Q := by
  intro f
  induction f with
  | zero =>
    intro i s m hf hi hs hc hm
    refine r_iload dL_law_23 rfl (r_aload_n 0 dL_law_25 rfl rfl (r_slen dL_law_26 (r_bipush 6 dL_law_27 rfl (r_isub dL_law_29 (r_icmp_gt 1791 dL_law_30 rfl (fun q => ?_) (fun q => absurd ((lw_cond hN (by omega)).mpr (by omega)) q))))))
    exact r_iconst 1 dL_law_1791 rfl (r_zret dL_law_1792 rfl (Or.inr rfl) (hQ _))
  | succ f ih =>
    intro i s m hf hi hs hc hm
    refine r_iload dL_law_23 rfl (r_aload_n 0 dL_law_25 rfl rfl (r_slen dL_law_26 (r_bipush 6 dL_law_27 rfl (r_isub dL_law_29 (r_icmp_gt 1791 dL_law_30 rfl (fun q => ?_) (fun q => ?_))))))
    · exact r_iconst 1 dL_law_1791 rfl (r_zret dL_law_1792 rfl (Or.inr rfl) (hQ _))
    · have hi6 : i + 6 ≤ g_N g := Nat.le_of_not_lt (fun z => q ((lw_cond hN (by omega)).mpr z))
      have hN2 : g_N g < 2 ^ 31 := by omega
      have K : LK nm g d f i Q := fun s' m' a b c => by
        have := ih (i + 6) s' m' (by omega) (by omega) a b c
        refine r_iinc 4 6 dL_law_1785 rfl rfl (Nat.le_of_ble_eq_true rfl) rfl (r_goto 23 dL_law_1788 rfl ?_)
        show WP g false (d + 19) (mL_law nm) f (6 * f) 23 [.ref 0, .ref 1, .ref 810, .ref 841, .int (nI i + nI 6), .retAddr 0, .retAddr 0] [] (mk m') Q
        rw [nI_add]
        exact this
      refine r_aload_n 0 dL_law_33 rfl rfl (r_iload dL_law_34 rfl (r_scr (k := i) rfl (by omega) (by omega) dL_law_36 (r_bipush 63 dL_law_37 rfl (r_iand dL_law_39 ?_))))
      obtain ⟨j, hj, ej⟩ := pk_andE (g_xs g i) (m := 63) 6 (by decide)
      rw [ej]
      clear ej
      by_cases h0 : j = 0
      · subst h0
        exact r_tableIn 224 dL_law_40 (by decide) (by decide) rfl rfl (WP_mono (Nat.le_succ _) (by omega) (lc_feed hN2 hi6 hs hc hm K))
      by_cases h1 : j = 1
      · subst h1
        exact r_tableIn 297 dL_law_40 (by decide) (by decide) rfl rfl (WP_mono (Nat.le_succ _) (by omega) (lc_text hN2 hi6 hs hc hm K))
      by_cases h2 : j = 2
      · subst h2
        exact r_tableIn 334 dL_law_40 (by decide) (by decide) rfl rfl (WP_mono (Nat.le_succ _) (by omega) (lc_fault hN2 hi6 hs hc hm K))
      by_cases h3 : j = 3
      · subst h3
        exact r_tableIn 347 dL_law_40 (by decide) (by decide) rfl rfl (WP_mono (Nat.le_succ _) (by omega) (lc_where hN2 hi6 hs hc hm K))
      by_cases h4 : j = 4
      · subst h4
        exact r_tableIn 360 dL_law_40 (by decide) (by decide) rfl rfl (WP_mono (Nat.le_succ _) (by omega) (lc_graph hN2 hi6 hs hc hm K))
      by_cases h5 : j = 5
      · subst h5
        exact r_tableIn 397 dL_law_40 (by decide) (by decide) rfl rfl (WP_mono (Nat.le_succ _) (by omega) (lc_colour hN2 hi6 hs hc hm K))
      by_cases h6 : j = 6
      · subst h6
        exact r_tableIn 434 dL_law_40 (by decide) (by decide) rfl rfl (WP_mono (Nat.le_succ _) (by omega) (lc_kind hN2 hi6 hs hc hm K))
      by_cases h7 : j = 7
      · subst h7
        exact r_tableIn 483 dL_law_40 (by decide) (by decide) rfl rfl (WP_mono (Nat.le_succ _) (by omega) (lc_degree hN2 hi6 hs hc hm K))
      by_cases h8 : j = 8
      · subst h8
        exact r_tableIn 532 dL_law_40 (by decide) (by decide) rfl rfl (WP_mono (Nat.le_succ _) (by omega) (lc_start hN2 hi6 hs hc hm K))
      by_cases h9 : j = 9
      · subst h9
        exact r_tableIn 569 dL_law_40 (by decide) (by decide) rfl rfl (WP_mono (Nat.le_succ _) (by omega) (lc_cell hN2 hi6 hs hc hm K))
      by_cases h10 : j = 10
      · subst h10
        exact r_tableIn 606 dL_law_40 (by decide) (by decide) rfl rfl (WP_mono (Nat.le_succ _) (by omega) (lc_apart hN2 hi6 hs hc hm K))
      by_cases h11 : j = 11
      · subst h11
        exact r_tableIn 655 dL_law_40 (by decide) (by decide) rfl rfl (WP_mono (Nat.le_succ _) (by omega) (lc_tree hN2 hi6 hs hc hm K))
      by_cases h12 : j = 12
      · subst h12
        exact r_tableIn 692 dL_law_40 (by decide) (by decide) rfl rfl (WP_mono (Nat.le_succ _) (by omega) (lc_search hN2 hi6 hs hc hm K))
      by_cases h13 : j = 13
      · subst h13
        exact r_tableIn 729 dL_law_40 (by decide) (by decide) rfl rfl (WP_mono (Nat.le_succ _) (by omega) (lc_name hN2 hi6 hs hc hm K))
      by_cases h14 : j = 14
      · subst h14
        exact r_tableIn 766 dL_law_40 (by decide) (by decide) rfl rfl (WP_mono (Nat.le_succ _) (by omega) (lc_place hN2 hi6 hs hc hm K))
      by_cases h15 : j = 15
      · subst h15
        exact r_tableIn 803 dL_law_40 (by decide) (by decide) rfl rfl (WP_mono (Nat.le_succ _) (by omega) (lc_less hN2 hi6 hs hc hm K))
      by_cases h16 : j = 16
      · subst h16
        exact r_tableIn 840 dL_law_40 (by decide) (by decide) rfl rfl (WP_mono (Nat.le_succ _) (by omega) (lc_generator hN2 hi6 hs hc hm K))
      by_cases h17 : j = 17
      · subst h17
        exact r_tableIn 889 dL_law_40 (by decide) (by decide) rfl rfl (WP_mono (Nat.le_succ _) (by omega) (lc_symmetries hN2 hi6 hs hc hm K))
      by_cases h18 : j = 18
      · subst h18
        exact r_tableIn 926 dL_law_40 (by decide) (by decide) rfl rfl (WP_mono (Nat.le_succ _) (by omega) (lc_orbit hN2 hi6 hs hc hm K))
      by_cases h19 : j = 19
      · subst h19
        exact r_tableIn 963 dL_law_40 (by decide) (by decide) rfl rfl (WP_mono (Nat.le_succ _) (by omega) (lc_leave hN2 hi6 hs hc hm K))
      by_cases h20 : j = 20
      · subst h20
        exact r_tableIn 1000 dL_law_40 (by decide) (by decide) rfl rfl (WP_mono (Nat.le_succ _) (by omega) (lc_maps hN2 hi6 hs hc hm K))
      by_cases h21 : j = 21
      · subst h21
        exact r_tableIn 1037 dL_law_40 (by decide) (by decide) rfl rfl (WP_mono (Nat.le_succ _) (by omega) (lc_map hN2 hi6 hs hc hm K))
      by_cases h22 : j = 22
      · subst h22
        exact r_tableIn 1086 dL_law_40 (by decide) (by decide) rfl rfl (WP_mono (Nat.le_succ _) (by omega) (lc_changes hN2 hi6 hs hc hm K))
      by_cases h23 : j = 23
      · subst h23
        exact r_tableIn 1123 dL_law_40 (by decide) (by decide) rfl rfl (WP_mono (Nat.le_succ _) (by omega) (lc_told hN2 hi6 hs hc hm K))
      by_cases h24 : j = 24
      · subst h24
        exact r_tableIn 1160 dL_law_40 (by decide) (by decide) rfl rfl (WP_mono (Nat.le_succ _) (by omega) (lc_cards hN2 hi6 hs hc hm K))
      by_cases h25 : j = 25
      · subst h25
        exact r_tableIn 1197 dL_law_40 (by decide) (by decide) rfl rfl (WP_mono (Nat.le_succ _) (by omega) (lc_turned hN2 hi6 hs hc hm K))
      by_cases h26 : j = 26
      · subst h26
        exact r_tableIn 1222 dL_law_40 (by decide) (by decide) rfl rfl (WP_mono (Nat.le_succ _) (by omega) (lc_base hN2 hi6 hs hc hm K))
      by_cases h27 : j = 27
      · subst h27
        exact r_tableIn 1259 dL_law_40 (by decide) (by decide) rfl rfl (WP_mono (Nat.le_succ _) (by omega) (lc_fewest hN2 hi6 hs hc hm K))
      by_cases h28 : j = 28
      · subst h28
        exact r_tableIn 1284 dL_law_40 (by decide) (by decide) rfl rfl (WP_mono (Nat.le_succ _) (by omega) (lc_link hN2 hi6 hs hc hm K))
      by_cases h29 : j = 29
      · subst h29
        exact r_tableIn 1345 dL_law_40 (by decide) (by decide) rfl rfl (WP_mono (Nat.le_succ _) (by omega) (lc_paint hN2 hi6 hs hc hm K))
      by_cases h30 : j = 30
      · subst h30
        exact r_tableIn 1394 dL_law_40 (by decide) (by decide) rfl rfl (WP_mono (Nat.le_succ _) (by omega) (lc_swap hN2 hi6 hs hc hm K))
      by_cases h31 : j = 31
      · subst h31
        exact r_tableIn 1443 dL_law_40 (by decide) (by decide) rfl rfl (WP_mono (Nat.le_succ _) (by omega) (lc_shuffle hN2 hi6 hs hc hm K))
      by_cases h32 : j = 32
      · subst h32
        exact r_tableIn 1480 dL_law_40 (by decide) (by decide) rfl rfl (WP_mono (Nat.le_succ _) (by omega) (lc_copy hN2 hi6 hs hc hm K))
      by_cases h33 : j = 33
      · subst h33
        exact r_tableIn 1517 dL_law_40 (by decide) (by decide) rfl rfl (WP_mono (Nat.le_succ _) (by omega) (lc_turn hN2 hi6 hs hc hm K))
      by_cases h34 : j = 34
      · subst h34
        exact r_tableIn 1542 dL_law_40 (by decide) (by decide) rfl rfl (WP_mono (Nat.le_succ _) (by omega) (lc_drop hN2 hi6 hs hc hm K))
      by_cases h35 : j = 35
      · subst h35
        exact r_tableIn 1579 dL_law_40 (by decide) (by decide) rfl rfl (WP_mono (Nat.le_succ _) (by omega) (lc_grow hN2 hi6 hs hc hm K))
      by_cases h36 : j = 36
      · subst h36
        exact r_tableIn 1628 dL_law_40 (by decide) (by decide) rfl rfl (WP_mono (Nat.le_succ _) (by omega) (lc_undo hN2 hi6 hs hc hm K))
      by_cases h37 : j = 37
      · subst h37
        exact r_tableIn 1641 dL_law_40 (by decide) (by decide) rfl rfl (WP_mono (Nat.le_succ _) (by omega) (lc_image hN2 hi6 hs hc hm K))
      by_cases h38 : j = 38
      · subst h38
        exact r_tableIn 1666 dL_law_40 (by decide) (by decide) rfl rfl (WP_mono (Nat.le_succ _) (by omega) (lc_again hN2 hi6 hs hc hm K))
      by_cases h39 : j = 39
      · subst h39
        exact r_tableIn 1691 dL_law_40 (by decide) (by decide) rfl rfl (lc_row hst hN2 hi6 hs hc hm K)
      by_cases h40 : j = 40
      · subst h40
        exact r_tableIn 1759 dL_law_40 (by decide) (by decide) rfl rfl (WP_mono (Nat.le_succ _) (by omega) (lc_size hN2 hi6 hs hc hm K))
      by_cases h41 : j = 41
      · subst h41
        exact r_tableIn 1772 dL_law_40 (by decide) (by decide) rfl rfl (WP_mono (Nat.le_succ _) (by omega) (lc_trouble hN2 hi6 hs hc hm K))
      refine r_tableOut 1785 dL_law_40 (Or.inr ?_) rfl (WP_mono (Nat.le_succ _) (by omega) (K s m hs hc hm))
      rw [nI_toInt (by omega)]
      omega
end ZLw
