/-! calls -/
section ZCalls2
variable {g : zG} {gr : Bool} {d : Nat} {M M2 : zM} {C S pc : Nat} {ls st st0 : List Value} {h : zH} {Q : Option Value → zH → Prop}
theorem z_run {p : Program} {e : Env} {R : Room} {s : State} {m : MethodId} {args : Array Value} {below : List Frame} {meth : Method} {c : Code} {H : Heap} {locs : List Loc} {cells slots C1 S1 : Nat} {QQ : State → Prop} {real : Array Slot} {rest sta : List Value} {Q1 : Option Value → zH → Prop}
    (hr : va_Run p (g_l g) e R s m args below meth c H locs cells slots C1 S1 (F0 m pc real sta) rest (fun (_ : State) (o : Outcome) (t : State) => ∃ (r : Option Value) (h2 : zH), o = .returned (r.map (z_tr g)) ∧ Q1 r h2 ∧ z_Rel g gr h2 t.heap) (fun q => g_B g ≤ q + 1)) (lo : z_lo g (g_B g) locs)
    (k : ∀ (r : Option Value) (h2 : zH) (H1 : Heap) (locs1 : List Loc), Q1 r h2 → z_Rel g gr h2 H1 → z_lo g (g_B g) locs1 → W p (g_l g) e R s m args below meth c H1 locs1 (cells + C1) (slots + S1) QQ (F0 m (pc + 3) real (r.toList.map (z_tr g) ++ rest))) : W p (g_l g) e R s m args below meth c H locs cells slots QQ (F0 m pc real sta) := by
  intro T hT X
  obtain ⟨v, st₀, t, T', L, h0, X', hL, e1, e2, ⟨r, h2, hv, hq, hrel⟩, stp⟩ := hr T hT X
  cases hv
  obtain ⟨t2, a1, b1⟩ := k r h2 T'.heap (locs ++ L) hq (by rw [e1]; exact hrel) (fun q hq => by
    rcases List.mem_append.mp hq with h | h
    · exact lo q h
    · exact hL q h) T' rfl X'
  exact ⟨t2, stp t2 (by cases r <;> exact a1), b1⟩
theorem z_blind {av : List Value} : FrameBlind (va_Pc (av.map (z_tr g)) (fun U => z_KK g U ∧ z_Rel g gr h U.heap)) := fun a U g' mk q => ⟨q.1, z_KK.moved (s := U) (U := U.calling g' mk a) (State.WarmedH.refl U) q.2.1, q.2.2⟩
theorem z_catsum (st : List Value) : ((st.map (z_tr g)).map fun v => v.category) = st.map fun v => v.category := by
  rw [List.map_map]
  apply List.map_congr_left
  intro v _
  exact z_tr_cat g v
/-- what the tables say of a method: its code, its class -/
def z_MD (M2 : zM) (n : Nat) : Prop := Cond.code M2.1 M2.2.1 M2.2.2.1 M2.2.2.2 ∈ lw_good ∧ Cond.initialized M2.1.cls ∈ lw_good ∧ M2.1.cls ≠ "java/lang/invoke/MethodHandle" ∧ M2.1.cls ≠ "java/lang/invoke/VarHandle" ∧ (parseMethodDescriptor M2.1.desc).map (fun d => d.parameters.length) = some n ∧ M2.2.2.1 ≤ 20
/-- links: a virtual call of the class's own method; an inherited or overriding one; a static one; a constructor -/
def z_LV (own : String) (ix : Nat) (Cn : String) (M2 : zM) : Prop := Cond.methodLink own ix M2.1 ∈ lw_good ∧ Cond.instanceMethod M2.1 ∈ lw_good ∧ Cond.selects Cn M2.1 M2.1 ∈ lw_good
def z_LU (own : String) (ix : Nat) (Cn owner : String) (x : MethodName) (M2 : zM) : Prop := Cond.methodLink own ix x ∈ lw_good ∧ Cond.sameMethod x.cls owner x.name x.desc ∈ lw_good ∧ Cond.selects Cn x M2.1 ∈ lw_good ∧ Cond.instanceMethod M2.1 ∈ lw_good ∧ (M2.1 = ⟨owner, x.name, x.desc⟩ ∨ Cond.declares ⟨owner, x.name, x.desc⟩ ∈ lw_nest ∨ (Cond.instanceMethod ⟨owner, x.name, x.desc⟩ ∈ lw_good ∧ ∃ b0 m0 r0, Cond.code ⟨owner, x.name, x.desc⟩ b0 m0 r0 ∈ lw_good)) ∧ owner ≠ "java/lang/invoke/MethodHandle" ∧ owner ≠ "java/lang/invoke/VarHandle" ∧ x.desc = M2.1.desc
def z_LS (own : String) (ix : Nat) (M2 : zM) : Prop := Cond.static M2.1 ∈ lw_good ∧ (Cond.methodLink own ix M2.1 ∈ lw_good ∨ ∃ host, Cond.methodLinkNest own ix M2.1 host ∈ lw_nest)
def z_LI (own : String) (ix : Nat) (M2 : zM) : Prop := Cond.instanceMethod M2.1 ∈ lw_good ∧ M2.1.name = "<init>" ∧ M2.2.2.2 = none ∧ (Cond.methodLink own ix M2.1 ∈ lw_good ∨ ∃ host, Cond.methodLinkNest own ix M2.1 host ∈ lw_nest)
theorem z_WG {n : Nat} (md : z_MD M2 n) : GoodIn lw_good (z_W M2) := by
  intro w hw
  rcases List.mem_cons.mp hw with rfl | hw
  · exact lw_good_g _ md.1
  · exact lw_good_g _ hw
theorem z_recv {a ci n : Nat} {H : Heap} {s : State} (rel : z_Rel g gr h H) (kk : z_KK g s) (ha : z_isA h a ci n) (hci : ci < 12) {Cn : String} {T : u_T} {N : Nat} (hcl : vwCl[ci]? = some (Cn, T, N)) : ∃ cellB : Cell, H[z_rho g a]? = some cellB ∧ cellB.vm.isStatics = false ∧ s.vm.findClass Cn = some cellB.cls := by
  obtain ⟨a0, a1, a2⟩ := ha
  have hc := rel.2.2.2 a a0 a1
  unfold z_cell at hc
  rw [a2, if_pos hci] at hc
  obtain ⟨q, q1, cell, o1, o2, o3, o4⟩ := hc
  obtain ⟨hS, hfc, -⟩ := kk.2.1.1 ci _ hcl
  exact ⟨cell, o1, by rw [o3]; rfl, by rw [o2]; exact hfc⟩
theorem z_room {M2 : zM} {R : Room} {d' : Nat} (hd : d' + 1 ≤ R.frames) (hl : 40 * (d' + 1) ≤ R.locals) (hm : M2.2.2.1 ≤ 20) {C1 S1 : Nat} : (z_rm d' C1 S1).frames + 1 ≤ R.frames ∧ 8 + (M2.2.2.1 + 11) + (z_rm d' C1 S1).locals ≤ R.locals := by
  refine ⟨hd, ?_⟩
  show 8 + (M2.2.2.1 + 11) + 40 * d' ≤ R.locals
  omega
theorem r_callV {ix a ci n C1 S1 : Nat} (As : List Value) (st : List Value) {T : u_T} {N : Nat} (n9 : Nat) (hd : decode M.2.1 pc = .ok (.invokevirtual ix, 3)) {Cn : String} (lk : z_LV M.1.cls ix Cn M2) (md : z_MD M2 n9) (hcl : vwCl[ci]? = some (Cn, T, N)) (hCn : M2.1.cls = Cn) (hci : ci < 12) (ha : z_isA h a ci n) (hn : As.length = n9) (hst : st0 = As.reverse ++ .ref a :: st) (hcat : (st.map fun v => v.category).sum ≤ 8) {C2 S2 : Nat} (hC : C = C1 + C2) (hS : S = S1 + S2)
    (ok : Ok g gr d M2 C1 S1 (.ref a :: As) h (fun r h2 => WP g gr (d + 1) M C2 S2 (pc + 3) ls (r.toList ++ st) h2 Q)) : WP g gr (d + 1) M C S pc ls st0 h Q := by
  intro p e R s m args below meth c mc ms QQ fx ret hmc hms H locs cells slots real rel lo lv hc hs
  subst hst
  have hts := fx.1.2.2.2.2
  have cb := callB_of (R := R) (own := M.1.cls) (index := ix) (rm := z_rm d C1 S1) (mc := C1) (ms := S1) n9 hts (z_WG md) rfl rfl rfl (hts _ md.2.1) (hts _ lk.1) ⟨md.2.2.1, md.2.2.2.1, md.2.2.2.2.1⟩ (z_room fx.2.2.1 fx.2.2.2.1 md.2.2.2.2.2)
  refine z_run (va_runV (C := Cn) (b := z_rho g a) (As := As.map (z_tr g)) (rest := st.map (z_tr g)) fx.1 ok ⟨cb, hts _ lk.2.1, hts _ lk.2.2⟩ ⟨z_blind, z_recv rel fx.2.1 ha hci hcl, fun U hU hW => ⟨rfl, fx.2.1.moved hW, by rw [hU]; exact rel⟩⟩ rfl (by rw [List.length_map]; exact hn) lv.1 ?_ (by rw [z_catsum]; exact (Nat.zero_add _).symm ▸ hcat) hd ⟨by omega, by omega⟩) lo (fun r h2 H1 locs1 hq rel1 lo1 => ?_)
  · show (As.reverse ++ .ref a :: st).map (z_tr g) = _
    rw [List.map_append, List.map_reverse, List.map_cons]; rfl
  · have := hq p e R s m args below meth c mc ms QQ fx ret hmc hms H1 locs1 (cells + C1) (slots + S1) real rel1 lo1 lv (by omega) (by omega)
    rw [List.map_append] at this
    exact this
theorem r_callU {ix a ci n C1 S1 : Nat} (As : List Value) (st : List Value) {T : u_T} {N : Nat} (n9 : Nat) (hd : decode M.2.1 pc = .ok (.invokevirtual ix, 3)) {Cn owner : String} {x : MethodName} (lk : z_LU M.1.cls ix Cn owner x M2) (md : z_MD M2 n9) (hcl : vwCl[ci]? = some (Cn, T, N)) (hci : ci < 12) (ha : z_isA h a ci n) (hn : As.length = n9) (hst : st0 = As.reverse ++ .ref a :: st) (hcat : (st.map fun v => v.category).sum ≤ 8) {C2 S2 : Nat} (hC : C = C1 + C2) (hS : S = S1 + S2)
    (ok : Ok g gr d M2 C1 S1 (.ref a :: As) h (fun r h2 => WP g gr (d + 1) M C2 S2 (pc + 3) ls (r.toList ++ st) h2 Q)) : WP g gr (d + 1) M C S pc ls st0 h Q := by
  intro p e R s m args below meth c mc ms QQ fx ret hmc hms H locs cells slots real rel lo lv hc hs
  subst hst
  have hts := fx.1.2.2.2.2
  obtain ⟨k1, k2, k3, k4, k5, k6, k7, k8⟩ := lk
  have hG : GoodIn lw_good (va_wsU M.1.cls ix Cn owner x M2.1 (z_W M2)) := by
    intro w hw
    unfold va_wsU at hw
    rcases List.mem_append.mp hw with hw | hw
    · simp only [List.mem_cons, List.not_mem_nil, or_false] at hw
      rcases hw with rfl | rfl | rfl | rfl | rfl
      · exact lw_good_g _ k1
      · exact lw_good_g _ k2
      · exact lw_good_g _ k3
      · exact lw_good_g _ k4
      · exact lw_good_g _ md.2.1
    · exact z_WG md w hw
  have hpar : (parseMethodDescriptor x.desc).map (fun d => d.parameters.length) = some n9 := by rw [k8]; exact md.2.2.2.2.1
  have hro := z_room (M2 := M2) (C1 := C1) (S1 := S1) fx.2.2.1 fx.2.2.2.1 md.2.2.2.2.2
  have cu : va_CU R s args M.1.cls Cn owner ix x M2.1 M2.2.1 M2.2.2.1 M2.2.2.2 (z_W M2) (z_rm d C1 S1) C1 S1 n9 := by
    rcases k5 with k5 | k5 | ⟨k5, b0, m0, r0, k5b⟩
    · exact va_cwU n9 hts hG rfl rfl rfl k5 ⟨k6, k7, hpar⟩ hro
    · exact va_cwA n9 hts hG rfl rfl rfl (fx.2.1.2.2.2.1 _ k5) ⟨k6, k7, hpar⟩ hro
    · refine va_cwO n9 hts (fun w hw => ?_) rfl rfl rfl k5b ⟨k6, k7, hpar⟩ hro
      unfold va_wsO at hw
      rcases List.mem_append.mp hw with hw | hw
      · simp only [List.mem_cons, List.not_mem_nil, or_false] at hw
        rcases hw with rfl | rfl | rfl | rfl | rfl | rfl
        · exact lw_good_g _ k1
        · exact lw_good_g _ k2
        · exact lw_good_g _ k5
        · exact lw_good_g _ k3
        · exact lw_good_g _ k4
        · exact lw_good_g _ md.2.1
      · exact z_WG md w hw
  refine z_run (va_runU (C := Cn) (b := z_rho g a) (As := As.map (z_tr g)) (rest := st.map (z_tr g)) fx.1 ok cu ⟨z_blind, z_recv rel fx.2.1 ha hci hcl, fun U hU hW => ⟨rfl, fx.2.1.moved hW, by rw [hU]; exact rel⟩⟩ rfl (by rw [List.length_map]; exact hn) lv.1 ?_ (by rw [z_catsum]; exact (Nat.zero_add _).symm ▸ hcat) hd ⟨by omega, by omega⟩) lo (fun r h2 H1 locs1 hq rel1 lo1 => ?_)
  · show (As.reverse ++ .ref a :: st).map (z_tr g) = _
    rw [List.map_append, List.map_reverse, List.map_cons]; rfl
  · have := hq p e R s m args below meth c mc ms QQ fx ret hmc hms H1 locs1 (cells + C1) (slots + S1) real rel1 lo1 lv (by omega) (by omega)
    rw [List.map_append] at this
    exact this
theorem r_callS {ix C1 S1 : Nat} (As : List Value) (st : List Value) (n9 : Nat) (hd : decode M.2.1 pc = .ok (.invokestatic ix, 3)) (lk : z_LS M.1.cls ix M2) (md : z_MD M2 n9) (hn : As.length = n9) (hst : st0 = As.reverse ++ st) (hcat : (st.map fun v => v.category).sum ≤ 8) {C2 S2 : Nat} (hC : C = C1 + C2) (hS : S = S1 + S2)
    (ok : Ok g gr d M2 C1 S1 As h (fun r h2 => WP g gr (d + 1) M C2 S2 (pc + 3) ls (r.toList ++ st) h2 Q)) : WP g gr (d + 1) M C S pc ls st0 h Q := by
  intro p e R s m args below meth c mc ms QQ fx ret hmc hms H locs cells slots real rel lo lv hc hs
  subst hst
  have hts := fx.1.2.2.2.2
  have hro := z_room (M2 := M2) (C1 := C1) (S1 := S1) fx.2.2.1 fx.2.2.2.1 md.2.2.2.2.2
  have hstk : (As.reverse ++ st).map (z_tr g) = (As.map (z_tr g)).reverse ++ st.map (z_tr g) := by rw [List.map_append, List.map_reverse]
  have hrun : va_Run p (g_l g) e R s m args below meth c H locs cells slots C1 S1 (F0 m pc real ((As.reverse ++ st).map (z_tr g))) (st.map (z_tr g)) (fun (_ : State) (o : Outcome) (t : State) => ∃ (r : Option Value) (h2 : zH), o = .returned (r.map (z_tr g)) ∧ WP g gr (d + 1) M C2 S2 (pc + 3) ls (r.toList ++ st) h2 Q ∧ z_Rel g gr h2 t.heap) (fun q => g_B g ≤ q + 1) := by
    rcases lk.2 with hl | ⟨host, hl⟩
    · have cb := callB_of (R := R) (own := M.1.cls) (index := ix) (rm := z_rm d C1 S1) (mc := C1) (ms := S1) n9 hts (z_WG md) rfl rfl rfl (hts _ md.2.1) (hts _ hl) ⟨md.2.2.1, md.2.2.2.1, md.2.2.2.2.1⟩ hro
      exact va_runS (As := As.map (z_tr g)) (rest := st.map (z_tr g)) fx.1 ok ⟨cb, hts _ lk.1⟩ ⟨z_blind, fun U hU hW => ⟨rfl, fx.2.1.moved hW, by rw [hU]; exact rel⟩⟩ rfl (by rw [List.length_map]; exact hn) lv.1 hstk (by rw [z_catsum]; exact (Nat.zero_add _).symm ▸ hcat) hd ⟨by omega, by omega⟩
    · have cb := va_cnB (R := R) (own := M.1.cls) (index := ix) (rm := z_rm d C1 S1) (mc := C1) (ms := S1) n9 hts (z_WG md) rfl rfl rfl (fx.2.1.2.2.2.1 _ hl) (hts _ md.2.1) ⟨md.2.2.1, md.2.2.2.1, md.2.2.2.2.1⟩ hro
      exact va_runSN (As := As.map (z_tr g)) (rest := st.map (z_tr g)) fx.1 ok ⟨cb, hts _ lk.1, trivial⟩ ⟨z_blind, fun U hU hW => ⟨rfl, fx.2.1.moved hW, by rw [hU]; exact rel⟩⟩ rfl (by rw [List.length_map]; exact hn) lv.1 hstk (by rw [z_catsum]; exact (Nat.zero_add _).symm ▸ hcat) hd ⟨by omega, by omega⟩
  refine z_run hrun lo (fun r h2 H1 locs1 hq rel1 lo1 => ?_)
  have := hq p e R s m args below meth c mc ms QQ fx ret hmc hms H1 locs1 (cells + C1) (slots + S1) real rel1 lo1 lv (by omega) (by omega)
  rw [List.map_append] at this
  exact this
theorem r_callI {ix a C1 S1 : Nat} (As : List Value) (st : List Value) (n9 : Nat) (hd : decode M.2.1 pc = .ok (.invokespecial ix, 3)) (lk : z_LI M.1.cls ix M2) (md : z_MD M2 n9) (hn : As.length = n9) (hst : st0 = As.reverse ++ .ref a :: st) (hcat : (st.map fun v => v.category).sum ≤ 8) {C2 S2 : Nat} (hC : C = C1 + C2) (hS : S = S1 + S2)
    (ok : Ok g gr d M2 C1 S1 (.ref a :: As) h (fun r h2 => WP g gr (d + 1) M C2 S2 (pc + 3) ls (r.toList ++ st) h2 Q)) : WP g gr (d + 1) M C S pc ls st0 h Q := by
  intro p e R s m args below meth c mc ms QQ fx ret hmc hms H locs cells slots real rel lo lv hc hs
  subst hst
  have hts := fx.1.2.2.2.2
  have hro := z_room (M2 := M2) (C1 := C1) (S1 := S1) fx.2.2.1 fx.2.2.2.1 md.2.2.2.2.2
  obtain ⟨l1, l2, l3, l4⟩ := lk
  obtain ⟨y, bytes, maxL, rt⟩ := M2
  dsimp only at l3
  subst l3
  have hstk : (As.reverse ++ .ref a :: st).map (z_tr g) = (As.map (z_tr g)).reverse ++ .ref (z_rho g a) :: st.map (z_tr g) := by rw [List.map_append, List.map_reverse, List.map_cons]; rfl
  have hrun : va_Run p (g_l g) e R s m args below meth c H locs cells slots C1 S1 (F0 m pc real ((As.reverse ++ .ref a :: st).map (z_tr g))) (st.map (z_tr g)) (fun (_ : State) (o : Outcome) (t : State) => ∃ (r : Option Value) (h2 : zH), o = .returned (r.map (z_tr g)) ∧ WP g gr (d + 1) M C2 S2 (pc + 3) ls (r.toList ++ st) h2 Q ∧ z_Rel g gr h2 t.heap) (fun q => g_B g ≤ q + 1) := by
    rcases l4 with hl | ⟨host, hl⟩
    · have cb := callB_of (R := R) (own := M.1.cls) (index := ix) (rm := z_rm d C1 S1) (mc := C1) (ms := S1) n9 hts (z_WG md) rfl rfl rfl (hts _ md.2.1) (hts _ hl) ⟨md.2.2.1, md.2.2.2.1, md.2.2.2.2.1⟩ hro
      exact va_runI (b := z_rho g a) (As := As.map (z_tr g)) (rest := st.map (z_tr g)) fx.1 ok ⟨cb, l2, hts _ l1⟩ ⟨z_blind, fun U hU hW => ⟨rfl, fx.2.1.moved hW, by rw [hU]; exact rel⟩⟩ rfl (by rw [List.length_map]; exact hn) lv.1 hstk (by rw [z_catsum]; exact (Nat.zero_add _).symm ▸ hcat) hd ⟨by omega, by omega⟩
    · have cb := va_cnB (R := R) (own := M.1.cls) (index := ix) (rm := z_rm d C1 S1) (mc := C1) (ms := S1) n9 hts (z_WG md) rfl rfl rfl (fx.2.1.2.2.2.1 _ hl) (hts _ md.2.1) ⟨md.2.2.1, md.2.2.2.1, md.2.2.2.2.1⟩ hro
      exact va_runIN (b := z_rho g a) (As := As.map (z_tr g)) (rest := st.map (z_tr g)) fx.1 ok ⟨cb, l2, hts _ l1⟩ ⟨z_blind, fun U hU hW => ⟨rfl, fx.2.1.moved hW, by rw [hU]; exact rel⟩⟩ rfl (by rw [List.length_map]; exact hn) lv.1 hstk (by rw [z_catsum]; exact (Nat.zero_add _).symm ▸ hcat) hd ⟨by omega, by omega⟩
  refine z_run hrun lo (fun r h2 H1 locs1 hq rel1 lo1 => ?_)
  have := hq p e R s m args below meth c mc ms QQ fx ret hmc hms H1 locs1 (cells + C1) (slots + S1) real rel1 lo1 lv (by omega) (by omega)
  rw [List.map_append] at this
  exact this
end ZCalls2
