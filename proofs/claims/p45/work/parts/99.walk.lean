/-! THE CLAIM OUT OF ONE WALK OF THE LAW'S BODY. Your part is whole_start (and what it stands on); all else here is the same for every law, but numbers. -/
def R_law : String := "GraphNamesLaw"
def lw_P (b : Addr) (xs : List Int32) (args : Array Value) (s : State) : Prop := args = #[.ref b] ∧ s.IntsAt b xs ∧ xs.length ≤ 260 ∧ (Jvm.Cond.and given_1 narrow_1).before args s = true
def lw_Q (_ : Array Value) (s : State) (o : Outcome) (t : State) : Prop := o = .returned (some (.int 1)) ∧ Framed s o t [] 600086 7301442
def lw_Z (below : List Frame) (a : Array Value) (s : State) : State → Prop := fun t => ∃ o, t.status = .running ∧ Ended t below o ∧ lw_Q a s o t
/-- the law's own end, with 1 on the stack, nothing written that was there before, its room as the claim has it -/
theorem lw_ret {p : Program} {l : Launch} {e : Env} {s : State} {m : MethodId} {below : List Frame} {meth : Method} {c : Code} {b : Nat} (hx : p.tables.exec = Jvm.exec) (hb : c.code = code) (hr : meth.sig.returnType = ret) (hlocks : meth.locks = false) {pc : Nat} {H : Heap} {ls : Array Slot} (hdg : decode code pc = .ok (.ireturn, 1)) : W p l e room_1 s m #[Value.ref b] below meth c H [] 600086 7301442 (lw_Z below #[Value.ref b] s) (F0 m pc ls [.int 1]) := by
  intro T hT X
  obtain ⟨fs, hret, hrun, hended, hW, hframe⟩ := X.leave (v := some (.int 1)) (hlocks := hlocks) (fun h => by rw [hr] at h; cases h)
  have hmeth' : T.vm.method? m = some meth := X.method'
  refine ⟨T.setFrames fs, ?_, .returned (some (.int 1)), hrun, hended, rfl, ⟨_, rfl⟩, hW, hframe⟩
  jvm_step X.here [X.here.top, hx, hb, hdg, hmeth', hr, ret, narrow_b1]
  (try refine ⟨rfl, ?_⟩); (try refine ⟨rfl, ?_⟩)
  first | (intro acts; rw [hret _ acts rfl rfl rfl]) | rw [hret _ _ rfl rfl rfl]
  exact Steps.refl _
/-- what holds at the law's entry: the machine, the code, the tables' words (any of lw_tbl by 'hts w (by decide +kernel)'), the script of L ints xs at the cell b, what the Statement gives of the start (any of its parts by flat_of_before) -/
def lw_At (p : Program) (s : State) (m : MethodId) (meth : Method) (c : Code) (b L : Nat) (xs : Nat → Int32) : Prop :=
  p.tables.exec = Jvm.exec ∧ c.code = code ∧ meth.sig.returnType = ret ∧ c.maxLocals = 16 ∧ s.vm.findClass R_law = some m.cls ∧ (∀ w ∈ lw_tbl, w.before #[Value.ref b] s = true) ∧ va_X b L xs s s.heap ∧ b < s.heap.size ∧ meth.locks = false ∧ (Jvm.Cond.and given_1 narrow_1).before #[Value.ref b] s = true
theorem zmS_810 : zmS.1 810 1 = 0 := by
  show (if 1 ≤ 810 ∧ 810 < 810 then i0 810 1 else 0) = 0
  exact if_neg (by decide)
theorem st_vR {g : zG} {m : zm} {a k n c : Nat} (eT : T0 a = (9, n)) (er : R0 a k = some c) (hk : z_sk 9 k = 3) : z_vl g (mk m) a k = .ref (z_rho g c) := by
  have := z_vl_ref (g := g) (h := mk m) (a := a) (k := k) (t := 9) (n := n) eT hk
  rw [this]
  show va_rf ((R0 a k).map (z_rho g)) = _
  rw [er]; rfl
theorem st_vI {g : zG} {m : zm} {a k n : Nat} (eT : T0 a = (9, n)) (h2 : z_sk 9 k ≠ 2) (h3 : z_sk 9 k ≠ 3) : z_vl g (mk m) a k = .int (m.1 a k) := by
  unfold z_vl
  rw [show z_T (mk m) = T0 from rfl, eT, if_neg h2, if_neg h3]
theorem l_up {g : zG} {gr : Bool} {C S pc : Nat} {ls st : List Value} {h h' : zH} {M : zM} {p : Program} {e : Env} {R : Room} {s : State} {m : MethodId} {args : Array Value} {below : List Frame} {meth : Method} {c : Code} {mc ms : Nat} {QQ : State → Prop} (hr : ∀ H, z_Rel g gr h H → z_Rel g gr h' H) (k : WPl g gr M p e R s m args below meth c mc ms QQ C S pc ls st h') : WPl g gr M p e R s m args below meth c mc ms QQ C S pc ls st h := fun H locs cells slots real rel lo lv hc hs => k H locs cells slots real (hr H rel) lo lv hc hs
/-- YOUR PART: from the entry, for every script of at most 260 ints, the law comes to its end with true ('hflags': the launch's flags, for a law that throws: no stack traces) -/
theorem whole_start {p : Program} {e : Env} {s : State} {m : MethodId} {below : List Frame} {meth : Method} {c : Code} (l : Launch) (hflags : l.flags = flags0) {b L : Nat} {xs : Nat → Int32} (hL : L ≤ 260) (C0 : lw_At p s m meth c b L xs) : W p l e room_1 s m #[Value.ref b] below meth c s.heap [] 0 0 (lw_Z below #[Value.ref b] s) (entryFrame m ([Value.ref b] : List Value).toArray 16) := by
  obtain ⟨hx, hb, hr, hml, hown, hts, hX, hbl, hlocks, hgv⟩ := id C0
  obtain ⟨D, hK, hArr⟩ := st_D hts
  have hg : ∀ w ∈ lw_good, w.before #[Value.ref b] s = true := fun w hw => hts w (lw_good_in w hw)
  have hl := lv_entry [.ref b] (n := 16) (Nat.le_of_ble_eq_true rfl)
  rw [lg_entry_eq]
  generalize (lg_sl [Value.ref b] ++ List.replicate (16 - (lg_sl [Value.ref b]).length) Slot.unset).toArray = real at hl ⊢
  have r0 : real[0]? = some (.val (.ref b)) := hl.2.2 (0, .ref b) List.mem_cons_self
  have hKn : u_Kn s RX10 TX10 2 (D.1 9) (D.2 9) := hK.1 9 (RX10, TX10, 2) rfl
  refine W.newcK (C := RX10) (n := 2) hx hb hown (hts _ (List.mem_of_getElem? (i := 840) (by decide +kernel))) (hts _ (List.mem_of_getElem? (i := 841) (by decide +kernel))) (hts _ (List.mem_of_getElem? (i := 31) (by decide +kernel))) rfl dL_law_0 (by decide) (by decide) hKn.2.1 rfl fun H1 kC hkC e1 z1 o1 => ?_
  have hV0 : t_OB s.heap.size (D.1 9) 2 (D.2 9) H1 (fun k => defaultValue (tyX10 k)) := u_born tyX10 hts inX10 hKn hkC e1 tyX10_ok
  refine lv_dup hx hb dL_law_3 rfl ?_
  refine lv_aload_n hx hb (k := 0) dL_law_4 rfl r0 ?_
  obtain ⟨l1, l2, l3, l4⟩ := lk_L_110
  have md := md_X10_init
  have hro : (z_rm 2047 0 0).frames + 1 ≤ room_1.frames ∧ 8 + (2 + 11) + (z_rm 2047 0 0).locals ≤ room_1.locals := ⟨by decide, by decide⟩
  have fx0 : CallFix p m c code 16 s #[Value.ref b] lw_good R_law := ⟨hx, hb, hml, hown, hg⟩
  have hmet := dr_met (l := l) (D := D) (b := b) (d := 2047) (by decide) hV0
  have hbli : FrameBlind (va_Pc [.ref s.heap.size, .ref b] (fun U => U.heap = H1 ∧ va_K D vwCl [] U)) := fun a U g' mk q => ⟨q.1, q.2.1, va_K.moved (State.WarmedH.refl U).alike q.2.2⟩
  have hrun : va_Run p l e room_1 s m #[Value.ref b] below meth c H1 [] (0 + 1) (0 + 2) 0 0 (F0 m 5 real [.ref b, .ref s.heap.size, .ref s.heap.size]) [.ref s.heap.size] (fun _ o t => o = .returned none ∧ t_OB s.heap.size (D.1 9) 2 (D.2 9) t.heap (fun k => if k = 0 then .ref b else defaultValue (tyX10 k)) ∧ t.heap.size = H1.size ∧ ∀ q, q ≠ s.heap.size → t.heap[q]? = H1[q]?) (fun q => q = s.heap.size) := by
    rcases l4 with hl9 | ⟨host, hl9⟩
    · have cb := callB_of (R := room_1) (own := R_law) (index := 110) (rm := z_rm 2047 0 0) (mc := 0) (ms := 0) 1 hg (z_WG md) rfl rfl rfl (hg _ md.2.1) (hg _ hl9) ⟨md.2.2.1, md.2.2.2.1, md.2.2.2.2.1⟩ hro
      exact va_runI (b := s.heap.size) (As := [.ref b]) (rest := [.ref s.heap.size]) fx0 hmet ⟨cb, l2, hg _ l1⟩ ⟨hbli, fun U hU hW => ⟨rfl, hU, va_K.moved hW.alike hK⟩⟩ rfl rfl hl.1 rfl (Nat.le_of_ble_eq_true rfl) dL_law_5 ⟨by decide, by decide⟩
    · have cb := va_cnB (R := room_1) (own := R_law) (index := 110) (rm := z_rm 2047 0 0) (mc := 0) (ms := 0) 1 hg (z_WG md) rfl rfl rfl (hts _ (List.mem_filter.mp hl9).1) (hg _ md.2.1) ⟨md.2.2.1, md.2.2.2.1, md.2.2.2.2.1⟩ hro
      exact va_runIN (b := s.heap.size) (As := [.ref b]) (rest := [.ref s.heap.size]) fx0 hmet ⟨cb, l2, hg _ l1⟩ ⟨hbli, fun U hU hW => ⟨rfl, hU, va_K.moved hW.alike hK⟩⟩ rfl rfl hl.1 rfl (Nat.le_of_ble_eq_true rfl) dL_law_5 ⟨by decide, by decide⟩
  intro T hT X
  obtain ⟨v, st₀, t, T', L9, h0, X', hL9, u1, u2, ⟨hv, hOB, hsz, hot⟩, stp⟩ := hrun T hT X
  cases hv
  rw [← u1] at hOB hsz hot
  obtain ⟨H2, eH2⟩ : ∃ H2, H2 = T'.heap := ⟨_, rfl⟩
  rw [← eH2] at hOB hsz hot
  have hsz2 : H2.size = s.heap.size + 1 := hsz.trans z1
  have hlow : ∀ q, q < s.heap.size → s.heap[q]? = H2[q]? := fun q hq => by rw [hot q (by omega), o1 q hq]
  obtain ⟨gs, hTx⟩ := st_T l (x := (b, L, xs)) (D := D) (w := fun q => H2[q]?) (tt := s.heap.size + 1 + 809) hlow hts hgv
  obtain ⟨g, eg⟩ : ∃ g : zG, g = (l, s.heap.size + 1, (b, L, xs), D, fun q => H2[q]?, gs, s.heap.size + 1 + 809) := ⟨_, rfl⟩
  have gl : g_l g = l := by rw [eg]
  have gB : g_B g = s.heap.size + 1 := by rw [eg]
  have gb : g_b g = b := by rw [eg]
  have gN : g_N g = L := by rw [eg]
  have gw : g_w g = fun q => H2[q]? := by rw [eg]
  have gD : g_D g = D := by rw [eg]
  have gt : g_t g = g_B g + 809 := by rw [eg]
  have kk : z_KK g s := by
    obtain ⟨scr, x1, x2, x3, x4, x5⟩ := hX
    refine ⟨fun w hw => word_at (State.WarmedH.refl s) (good_of_word (List.mem_filter.mp hw).2) (hts w (lw_good_in w hw)), by rw [eg]; exact hK, fun t h1 h2 => by rw [eg]; exact hArr t h1 h2, fun w hw => lw_nest_args hw (hts w (List.mem_filter.mp hw).1), scr, by rw [gw, gb]; exact (hlow b hbl).symm.trans x1, x2, x3, by rw [eg]; exact x4, by rw [eg]; exact x5, by rw [gb, gB]; omega, by rw [eg]; exact hTx⟩
  have rel : z_Rel g true (mkc 1 (fun _ _ => none) zm0) H2 := by
    refine ⟨fun q _ => by rw [gw], ?_, ⟨Nat.le_refl _, by show 1 < 1000000; decide, by rw [gB]; omega, fun z => absurd z (by show ¬ 810 < 1; decide)⟩, fun a h1 h2 => absurd h2 (by show ¬ a < 1; omega)⟩
    show (if true = true then H2.size = z_nx g 1 else _)
    rw [if_pos rfl]
    unfold z_nx
    rw [if_pos (by decide), gB]
    omega
  have fx : z_FX g 2048 (mL_law meth.name) p room_1 s m #[Value.ref b] meth c := ⟨⟨hx, hb, hml, hown, hg⟩, kk, by decide, by decide, rfl⟩
  have hmc : 600086 ≤ room_1.cells := Nat.le_refl _
  have hms : 7301442 ≤ room_1.slots := Nat.le_refl _
  have RT : z_RET g false (mL_law meth.name) p e room_1 s m #[Value.ref b] below meth c 600086 7301442 (lw_Z below #[Value.ref b] s) (fun r _ => r = some (.int 1)) := by
    intro H locs cells slots real pc r h hc hs hrel hlo hq hrv
    subst hq
    obtain ⟨ty, -, -, hdg⟩ := hrv
    rw [gl]
    exact W.widen hc hs (va_forget (fun q hq => by have := hlo q hq; rw [gB] at this; show s.heap.size ≤ q.base; omega) (lw_ret hx hb hr hlocks hdg))
  have lv : lv_has real 16 (z_asc g [.ref 0, .retAddr 0, .retAddr 0, .retAddr 0, .retAddr 0, .retAddr 0, .retAddr 0, .retAddr 0, .retAddr 0, .retAddr 0, .retAddr 0, .retAddr 0, .retAddr 0, .retAddr 0, .retAddr 0, .retAddr 0] 0) := by
    refine z_mono hl ?_
    intro q hq
    have : q = (0, z_tr g (.ref 0)) := List.mem_singleton.mp hq
    rw [this]
    have e0 : z_tr g (.ref 0) = .ref b := by
      show Value.ref (z_rho g 0) = _
      rw [show z_rho g 0 = g_b g from if_pos rfl, gb]
    rw [e0]
    exact List.mem_cons_self
  have lo : z_lo g (g_B g) ([] ++ L9) := fun q hq => by
    rw [List.nil_append] at hq
    rw [hL9 q hq, gB]
    exact Nat.le_refl _
  have hu : ∀ H3 : Heap, H3[g_B g - 1]? = g_w g (g_B g - 1) → t_OB (g_B g - 1) ((g_D g).1 9) 2 ((g_D g).2 9) H3 (z_vl g (mk zmS) 810) := by
    intro H3 h3
    rw [gw] at h3
    have eB : g_B g - 1 = s.heap.size := by rw [gB]; omega
    rw [eB] at h3 ⊢
    rw [gD]
    obtain ⟨cell, c1, c2, c3, c4⟩ := hOB
    refine ⟨cell, h3.trans c1, c2, c3, fun k hk => ?_⟩
    rw [c4 k hk]
    have eT : T0 810 = (9, 2) := a_810.2.2
    rcases (show k = 0 ∨ k = 1 by omega) with rfl | rfl
    · rw [st_vR (m := zmS) (g := g) eT r_810_0 (by decide), show z_rho g 0 = g_b g from if_pos rfl, gb]
      rfl
    · rw [st_vI (m := zmS) (g := g) eT (by decide) (by decide), zmS_810]
      rfl
  have key : WPl g true (mL_law meth.name) p e room_1 s m #[Value.ref b] below meth c 600086 7301442 (lw_Z below #[Value.ref b] s) 600085 7301440 8 [.ref 0, .retAddr 0, .retAddr 0, .retAddr 0, .retAddr 0, .retAddr 0, .retAddr 0, .retAddr 0, .retAddr 0, .retAddr 0, .retAddr 0, .retAddr 0, .retAddr 0, .retAddr 0, .retAddr 0, .retAddr 0] [.ref 810] (mkc 1 (fun _ _ => none) zm0) := by
    refine l_astore_n fx 1 dL_law_8 rfl (Nat.le_of_ble_eq_true rfl) rfl ?_
    refine l_new (C := 600084) (S := 7301426) (N := 14) fx hmc hms dL_law_9 nw_L_18 (by decide +kernel) (by decide) (fun _ => rfl) (fun _ => ⟨rfl, rfl⟩) ?_
    refine l_dup fx dL_law_12 rfl ?_
    refine l_callI (C1 := 808) (S1 := 26509) (C2 := 599276) (S2 := 7274917) (d := 2047) fx hmc hms [] [.ref 1] 0 dL_law_13 lk_L_113 md_X9_init rfl rfl (Nat.le_of_ble_eq_true rfl) rfl rfl ?_
    refine c_X9 (d := 2043) (fun _ _ _ => rfl) (fun _ _ _ => ⟨rfl, rfl⟩) ?_
    refine l_astore_n fx 2 dL_law_16 rfl (Nat.le_of_ble_eq_true rfl) rfl ?_
    refine l_up (h' := mk zmS) (fun H9 rel9 => st_up rel9 gt hu) ?_
    have hN : g_N g < 2 ^ 31 := by rw [gN]; omega
    refine l_aload_n fx 2 dL_law_17 rfl rfl ?_
    refine l_iconst fx (nI 0) dL_law_18 rfl ?_
    refine l_iconst fx (nI 0) dL_law_19 rfl ?_
    refine l_callV (C1 := 0) (S1 := 0) (C2 := 599276) (S2 := 7274917) (d := 2047) fx hmc hms [.int (nI 0), .int (nI 0)] [] 2 dL_law_20 lk_L_64 md_X9_graph (ci := 8) rfl rfl (by decide) (zag_isA zag_mk (by decide +kernel : sA 1 8 14)) rfl rfl (Nat.le_of_ble_eq_true rfl) rfl rfl ?_
    refine y_graph_n sg0_OK (w := 0) (by decide) _ _ _ _ _ (by decide) sg0_CR (fun m1 c1 f1 => ?_)
    refine l_iconst fx (nI 1) dL_law_23 rfl ?_
    refine l_icmp_ne fx 46 dL_law_24 rfl (fun z => absurd rfl z) (fun _ => ?_)
    refine l_aload_n fx 2 dL_law_27 rfl rfl ?_
    refine l_iconst fx (nI 1) dL_law_28 rfl ?_
    refine l_iconst fx (nI 0) dL_law_29 rfl ?_
    refine l_callV (C1 := 0) (S1 := 0) (C2 := 599276) (S2 := 7274917) (d := 2047) fx hmc hms [.int (nI 1), .int (nI 0)] [] 2 dL_law_30 lk_L_114 md_X9_symmetries (ci := 8) rfl rfl (by decide) (zag_isA zag_mk (by decide +kernel : sA 1 8 14)) rfl rfl (Nat.le_of_ble_eq_true rfl) rfl rfl ?_
    refine y_symmetries_0 (sOK_qs sg0_OK 0) (w := 1) (by decide) _ _ _ _ _ (by decide) c1 (fun m2 c2 f2 => ?_)
    refine l_iconst fx (nI 1) dL_law_33 rfl ?_
    refine l_icmp_ne fx 46 dL_law_34 rfl (fun z => absurd (congrArg nI sg0_sy) z) (fun _ => ?_)
    refine l_aload_n fx 2 dL_law_37 rfl rfl ?_
    refine l_iconst fx (nI 2) dL_law_38 rfl ?_
    refine l_iconst fx (nI 0) dL_law_39 rfl ?_
    refine l_callV (C1 := 0) (S1 := 0) (C2 := 599276) (S2 := 7274917) (d := 2047) fx hmc hms [.int (nI 2), .int (nI 0)] [] 2 dL_law_40 lk_L_107 md_X9_name (ci := 8) rfl rfl (by decide) (zag_isA zag_mk (by decide +kernel : sA 1 8 14)) rfl rfl (Nat.le_of_ble_eq_true rfl) rfl rfl ?_
    refine y_name (sOK_qs (sOK_qs sg0_OK 0) 0) (w := 2) (by decide) (j := 0) (by decide) _ _ _ _ _ (by decide) c2 (fun m3 c3 f3 => ?_)
    refine l_if_eq fx 48 dL_law_43 rfl (fun _ => ?_) (fun z => absurd (congrArg nI sg0_nm) z)
    refine l_aload_n fx 2 dL_law_48 rfl rfl ?_
    refine l_iconst fx (nI 0) dL_law_49 rfl ?_
    refine l_aload_n fx 1 dL_law_50 rfl rfl ?_
    refine l_bipush fx (nI 6) dL_law_51 rfl ?_
    have hD3 : m3.1 810 1 = nI 0 := (congrFun ((fC_trans f1 (fC_trans f2 f3)) 810 (Nat.le_refl _)).1 1).trans zmS_810
    refine l_callS (C1 := B1 0) (S1 := B2 0) (C2 := 597476) (S2 := 6852517) (d := 2047) fx hmc hms [.ref 810, .int (nI 6)] [.int (nI 0), .ref 1] 2 dL_law_53 lk_L_117 md_L_text rfl rfl (Nat.le_of_ble_eq_true rfl) rfl rfl ?_
    refine k_text (e := 2046) (a0 := 0) (by decide) hN (by decide) hD3 (fun h4 w4 L4 n4 a4 tp t4 w8 ag4 ha4 hz4 => ?_)
    refine l_callS (C1 := 20) (S1 := 200) (C2 := 597456) (S2 := 6852317) (d := 2047) fx hmc hms [.ref 1, .int (nI 0), .ref w4] [] 3 dL_law_56 lk_L_120 md_L_tell rfl rfl (Nat.le_of_ble_eq_true rfl) rfl rfl ?_
    refine k_tell (z0 := 0) (e := 2046) (s0 := qs (qs (qs sg0 0) 0) 0) (by decide) (sOK_qs (sOK_qs (sOK_qs sg0_OK 0) 0) 0) rfl tp t4 w8 ag4 (CR_810 c3) hz4 (fun h5 m5 s5 ok5 gn5 c5 f5 ag5 => ?_)
    refine l_drop ag5 ?_
    subst gn5
    refine l_of (d := 2048) fx hmc hms RT (WP_mono (C := 0) (S := 0) (Nat.zero_le _) (Nat.zero_le _) ?_)
    refine r_forget [false, true, true, true, true, true, true, true, true, true, true, true, true, true, true, true] rfl ?_
    have hD5 : m5.1 810 1 = nI a4 := (congrFun (f5 810 (Nat.le_refl _)).1 1).trans r_810_1
    exact t_59 (d := 2031) (by decide) ok5 tp.1 (a := a4) (by omega) hN hD5 c5 (fun _ => rfl)
  have kW := key H2 ([] ++ L9) (0 + 1 + 0) (0 + 2 + 0) real rel lo lv (by decide) (by decide)
  rw [gl] at kW
  have eR : z_tr g (.ref 810) = .ref s.heap.size := by
    show Value.ref (z_rho g 810) = _
    rw [z_rho_2, gB, Nat.add_sub_cancel]
  rw [List.map_cons, List.map_nil, eR] at kW
  obtain ⟨t9, a9, b9⟩ := kW T' eH2.symm X'
  exact ⟨t9, stp t9 a9, b9⟩
set_option maxHeartbeats 4000000 in
theorem lw_walk (l : Launch) (hflags : l.flags = flags0) (b : Addr) (xs : List Int32) : MetFree l x (headSpec (Jvm.Cond.code x code maxLocals ret :: tables_1) room_1) (lw_P b xs) (fun _ _ _ _ _ => True) lw_Q := by
  refine MetFree.of_bodyS (code := code) (maxLocals := maxLocals) (ret := ret) (by decide) ?_ ?_
  · intro args s m h hn
    obtain ⟨meth, c, h1, h2, h3, h4, h5, h6, -, -⟩ := Cond.code_spec hn (atoms_spec (ws := Jvm.Cond.code x code maxLocals ret :: tables_1) h _ List.mem_cons_self)
    exact ⟨meth, c, h1, h2, h3, h4, h5, h6⟩
  · intro p e s m args below meth c s₁ B hml0 hP _
    obtain ⟨rfl, hx, hbd, hgv⟩ := hP
    obtain ⟨scr, harrAt, hlist, hof, hsmall⟩ := hx
    obtain ⟨hcb, hkn, -, -⟩ := State.arrayAt?_spec harrAt
    have hown : s.vm.findClass R_law = some m.cls := findClass_of_methodNamed B.named
    have hts0 : ∀ c ∈ (Jvm.Cond.code x code maxLocals ret :: tables_1), c.before #[Value.ref b] s = true := atoms_spec (ws := Jvm.Cond.code x code maxLocals ret :: tables_1) B.pre
    have hts : ∀ w ∈ lw_tbl, w.before #[Value.ref b] s = true := k2_hts_sels lw_privs (fun w hw => hts0 w (List.mem_cons_of_mem _ hw)) lw_privs_ok
    have hml : c.maxLocals = 16 := B.maxLocals_eq (hts0 _ List.mem_cons_self)
    have X₀ : Stand p l e room_1 s m #[Value.ref b] below meth c s₁ [] 0 0 := Stand.of_body B
    have hh0 : s₁.heap = s.heap := by rw [B.state]; rfl
    have hsz : scr.slots.size = xs.length := by rw [← Array.length_toList, hlist, List.length_map]
    have hval : ∀ j : Nat, j < xs.length → scr.slots[j]? = some (.int (xs.getD j 0)) := fun j hj => by
      rw [← Array.getElem?_toList, hlist]
      simp [hj]
    have hbl : b < s.heap.size := (Array.getElem?_eq_some_iff.mp hcb).1
    have hX : va_X b xs.length (fun j => xs.getD j 0) s s.heap := ⟨scr, hcb, hof, hkn, hsz, hval⟩
    have K : W p l e room_1 s m #[Value.ref b] below meth c s₁.heap [] 0 0 (lw_Z below #[Value.ref b] s) (entryFrame m ([Value.ref b] : List Value).toArray 16) := by
      rw [hh0]
      exact whole_start l hflags hbd ⟨B.exec, B.bytes, B.returns, hml, hown, hts, hX, hbl, B.notSynchronized, hgv⟩
    obtain ⟨t, a1, o, b1, b2, b3⟩ := K s₁ rfl X₀
    exact ⟨t, o, a1, b1, b2, b3⟩
theorem lw_pre_spec {args : Array Value} {s : State} (h : (Jvm.Cond.and given_1 narrow_1).before args s = true) (hr : rest_1_c.before args s = true) : ∃ (b : Addr) (xs : List Int32), lw_P b xs args s := by
  have hs := flat_of_before _ h
  have hq := flat_of_before _ hr
  have hc : (Cond.count 1).before args s = true := hs _ (by decide +kernel)
  have harr : (Cond.arrayOf (.arg 0) .int).before args s = true := hs _ (by decide +kernel)
  have hle : (Cond.le (.length (.arg 0)) (.int 260)).before args s = true := hs _ (by decide +kernel)
  have hlen : (Cond.isInt (.length (.arg 0))).before args s = true := hq _ (by decide +kernel)
  have hall : (Cond.all (.arg 0) (.isInt (.elem (.arg 0) (.index 0)))).before args s = true := hq _ (by decide +kernel)
  obtain ⟨b, xs, hb, hx⟩ := State.ints_of_pre rfl harr hlen hall
  have hsm : xs.length < 2 ^ 31 := hx.choose_spec.2.2.2
  have hev : (Term.length (.arg 0)).eval args s none [] s = some (.int xs.length.toInt32) := hx.length_eval hb
  have hv := Cond.le_ints hev (show (Term.int 260).eval args s none [] s = some (.int 260) from rfl)
  have hd : xs.length.toInt32 ≤ 260 := by
    simpa [Cond.before, Cond.holds, hv] using hle
  have hN : xs.length ≤ 260 := (Int32.ofNat_le_ofNat hsm (by decide)).mp (show Int32.ofNat xs.length ≤ Int32.ofNat 260 from hd)
  exact ⟨b, xs, Cond.one_arg hc (show args[0]? = some (.ref b) from hb), hx, hN, h⟩
theorem lw_comes (l : Launch) (hflags : l.flags = flags0) : Comes l x (Jvm.Cond.code x code maxLocals ret :: tables_1) room_1 (fun tb e args s => Calls_1 tb e args s ∧ rest_1 tb e args s ∧ Pre_1 tb e args s)
    (fun _ _ args s o t => lw_Q args s o t) := by
  intro p e ha hc hk s m args below hf hfit hheap happ hpre
  obtain ⟨b, xs, hP⟩ := lw_pre_spec hpre.2.2 hpre.2.1
  obtain ⟨k, o, h1, h2, h3, hQ⟩ := lw_walk l hflags b xs p e ha hc hk s m args below hf ((Spec.applies_iff_loose hf).mp happ).1 hP trivial
  exact ⟨k, o, h1, h2, h3, hQ⟩
theorem lw_frame {s t : State} {o : Outcome} {args : Array Value} (h : Framed s o t [] 600086 7301442) :
    Framed s o t (fieldLocs frame_1_writes args s ++ arrayLocs frame_1_arrays args s ++ staticLocs frame_1_statics s) 600086 7301442 := h
theorem lw_limb (L : Cond) (hL : ∀ (args : Array Value) (s t : State), L.after args s (.returned (some (.int 1))) t = true) :
    ArmFor flags0 classFile x code maxLocals ret World_1 tables_1 room_1 Calls_1 rest_1 Pre_1
      (fun tb e a s o t => postC L tb e a s o t ∧ Framed s o t (fieldLocs frame_1_writes a s ++ arrayLocs frame_1_arrays a s ++ staticLocs frame_1_statics s) 600086 7301442) := by
  intro l hflags _ _ p e ha hc hk s m args below hf hfit hheap happ hpre
  obtain ⟨k, o, h1, h2, h3, rfl, hF⟩ := lw_comes l hflags p e ha hc hk s m args below hf hfit hheap happ hpre
  exact ⟨k, _, h1, h2, h3, hL args s _, lw_frame hF⟩
theorem i_vc : Claimed_1_1 ∧ Claimed_1_2 := ⟨lw_limb limb_1_1 (fun args s t => by simp [limb_1_1, Cond.after, Cond.holds, Cond.value]), lw_limb limb_1_2 (fun args s t => Cond.after_iff.mpr (by
  first | (rw [show limb_1_2 = Cond.eq .result (.int 1) from rfl, Cond.eq_ints (x := 1) (y := 1) rfl rfl]; simp; done) | (simp [limb_1_2, Cond.value, Term.eval]; done)))⟩
