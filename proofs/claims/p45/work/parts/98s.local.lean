/-! rules for the law's own run -/
def WPl (g : zG) (gr : Bool) (M : zM) (p : Program) (e : Env) (R : Room) (s : State) (m : MethodId) (args : Array Value) (below : List Frame) (meth : Method) (c : Code) (mc ms : Nat) (QQ : State → Prop) (C S pc : Nat) (ls st : List Value) (h : zH) : Prop :=
  ∀ (H : Heap) (locs : List Loc) (cells slots : Nat) (real : Array Slot), z_Rel g gr h H → z_lo g (g_B g) locs → lv_has real M.2.2.1 (z_asc g ls 0) → cells + C ≤ mc → slots + S ≤ ms → W p (g_l g) e R s m args below meth c H locs cells slots QQ (F0 m pc real (st.map (z_tr g)))
section ZLoc
variable {g : zG} {gr : Bool} {d : Nat} {M M2 : zM} {C S pc : Nat} {ls st st0 : List Value} {h : zH} {p : Program} {e : Env} {R : Room} {s : State} {m : MethodId} {args : Array Value} {below : List Frame} {meth : Method} {c : Code} {mc ms : Nat} {QQ : State → Prop}
theorem l_of {Q : Option Value → zH → Prop} (fx : z_FX g d M p R s m args meth c) (hmc : mc ≤ R.cells) (hms : ms ≤ R.slots) (ret : z_RET g gr M p e R s m args below meth c mc ms QQ Q) (k : WP g gr d M C S pc ls st h Q) : WPl g gr M p e R s m args below meth c mc ms QQ C S pc ls st h := k p e R s m args below meth c mc ms QQ fx ret hmc hms
theorem l_mono {C' S' : Nat} (hC : C ≤ C') (hS : S ≤ S') (k : WPl g gr M p e R s m args below meth c mc ms QQ C S pc ls st h) : WPl g gr M p e R s m args below meth c mc ms QQ C' S' pc ls st h := fun H locs cells slots real rel lo lv hc hs => k H locs cells slots real rel lo lv (by omega) (by omega)
/-- what was made behind the object is given up -/
theorem l_drop {m1 : zm} (ag : zag h m1) (k : WPl g false M p e R s m args below meth c mc ms QQ C S pc ls st (mk m1)) : WPl g true M p e R s m args below meth c mc ms QQ C S pc ls st h := by
  intro H locs cells slots real rel lo lv hc hs
  refine k H locs cells slots real ?_ lo lv hc hs
  obtain ⟨r1, r2, ⟨r3, r4, r5, r6⟩, r7⟩ := rel
  have hz := ag.1
  have e2 : H.size = z_nx g (z_z h) := by simpa using r2
  unfold z_nx at e2
  rw [if_neg (by omega)] at e2
  refine ⟨fun q hq => ?_, ?_, ⟨by show 1 ≤ 811; omega, by show 811 < 1000000; omega, r5, fun _ => r6 (by omega)⟩, fun a a0 a1 => ?_⟩
  · have hq : z_kn g 811 q := hq
    unfold z_kn at hq
    rw [if_neg (show ¬ (811 : Nat) ≤ 810 by decide)] at hq
    exact r1 q (by unfold z_kn; rw [if_neg (by omega)]; exact hq)
  · show (if false = true then H.size = z_nx g 811 else z_nx g 811 ≤ H.size)
    rw [if_neg (by decide)]
    unfold z_nx
    rw [if_neg (show ¬ (811 : Nat) ≤ 810 by decide)]
    omega
  · have a1 : a < 811 := a1
    obtain ⟨f1, f2⟩ := ag.2 a a1
    refine z_cell_kept (r7 a a0 (by omega)) f1.symm (fun k => ?_) rfl
    obtain ⟨q1, q2, q3⟩ := f2 k
    unfold z_vl
    rw [f1, q1, q2, q3]
theorem l_aload_n (fx : z_FX g d M p R s m args meth c) {kk : Fin 4} {x : Nat} (i : Nat) (hd : decode M.2.1 pc = .ok (.aload_n kk, 1)) (hi : (kk : Nat) = i) (hl : ls[i]? = some (.ref x)) (k : WPl g gr M p e R s m args below meth c mc ms QQ C S (pc + 1) ls (.ref x :: st) h) : WPl g gr M p e R s m args below meth c mc ms QQ C S pc ls (st) h := by
  intro H locs cells slots real rel lo lv hc hs
  exact lv_aload_n fx.1.1 fx.1.2.1 hd hi (z_load lv hl rfl) (k H locs cells slots real rel lo lv hc hs)
theorem l_astore_n (fx : z_FX g d M p R s m args meth c) {kk : Fin 4} {x : Nat} (i : Nat) (hd : decode M.2.1 pc = .ok (.astore_n kk, 1)) (hi : (kk : Nat) = i) (hn : i < M.2.2.1) (hb : z_nl ls i = true) (k : WPl g gr M p e R s m args below meth c mc ms QQ C S (pc + 1) (ls.set i (.ref x)) st h) : WPl g gr M p e R s m args below meth c mc ms QQ C S pc ls (.ref x :: st) h := by
  intro H locs cells slots real rel lo lv hc hs
  exact lv_astore_n fx.1.1 fx.1.2.1 hd hi lv hn rfl (fun ls1 lv1 => (k H locs cells slots ls1 rel lo (z_store (v := .ref x) lv1 hb) hc hs))
theorem l_dup (fx : z_FX g d M p R s m args meth c) {v : Value} (hd : decode M.2.1 pc = .ok (.dup, 1)) (hc1 : v.category = 1) (k : WPl g gr M p e R s m args below meth c mc ms QQ C S (pc + 1) ls (v :: v :: st) h) : WPl g gr M p e R s m args below meth c mc ms QQ C S pc ls (v :: st) h := by
  intro H locs cells slots real rel lo lv hc hs
  exact lv_dup fx.1.1 fx.1.2.1 hd ((z_tr_cat g v).trans hc1) (k H locs cells slots real rel lo lv hc hs)
theorem l_iconst (fx : z_FX g d M p R s m args meth c) {n : Int} (v : Int32) (hd : decode M.2.1 pc = .ok (.iconst n, 1)) (hv : Int32.ofInt n = v) (k : WPl g gr M p e R s m args below meth c mc ms QQ C S (pc + 1) ls (.int v :: st) h) : WPl g gr M p e R s m args below meth c mc ms QQ C S pc ls (st) h := by
  intro H locs cells slots real rel lo lv hc hs
  exact lv_iconst fx.1.1 fx.1.2.1 hd hv (k H locs cells slots real rel lo lv hc hs)
theorem l_bipush (fx : z_FX g d M p R s m args meth c) {n : Int} (v : Int32) (hd : decode M.2.1 pc = .ok (.bipush n, 2)) (hv : (Int8.ofInt n).toInt32 = v) (k : WPl g gr M p e R s m args below meth c mc ms QQ C S (pc + 2) ls (.int v :: st) h) : WPl g gr M p e R s m args below meth c mc ms QQ C S pc ls (st) h := by
  intro H locs cells slots real rel lo lv hc hs
  exact lv_bipush fx.1.1 fx.1.2.1 hd hv (k H locs cells slots real rel lo lv hc hs)
theorem l_icmp_ne (fx : z_FX g d M p R s m args meth c) {off : Int} {x y : Int32} (tgt : Nat) (hd : decode M.2.1 pc = .ok (.if_icmp .ne off, 3)) (ht : (pc : Int) + off = (tgt : Int)) (kt : ¬ x = y → WPl g gr M p e R s m args below meth c mc ms QQ C S tgt ls st h) (kf : x = y → WPl g gr M p e R s m args below meth c mc ms QQ C S (pc + 3) ls st h) : WPl g gr M p e R s m args below meth c mc ms QQ C S pc ls (.int y :: .int x :: st) h := by
  intro H locs cells slots real rel lo lv hc hs
  exact lv_icmp_ne fx.1.1 fx.1.2.1 hd ht (fun q => kt q H locs cells slots real rel lo lv hc hs) (fun q => kf q H locs cells slots real rel lo lv hc hs)
theorem l_if_eq (fx : z_FX g d M p R s m args meth c) {off : Int} {x : Int32} (tgt : Nat) (hd : decode M.2.1 pc = .ok (.ifCond .eq off, 3)) (ht : (pc : Int) + off = (tgt : Int)) (kt : x = 0 → WPl g gr M p e R s m args below meth c mc ms QQ C S tgt ls st h) (kf : ¬ x = 0 → WPl g gr M p e R s m args below meth c mc ms QQ C S (pc + 3) ls st h) : WPl g gr M p e R s m args below meth c mc ms QQ C S pc ls (.int x :: st) h := by
  intro H locs cells slots real rel lo lv hc hs
  exact lv_if_eq fx.1.1 fx.1.2.1 hd ht (fun q => kt q H locs cells slots real rel lo lv hc hs) (fun q => kf q H locs cells slots real rel lo lv hc hs)
theorem l_callV (fx : z_FX g (d + 1) M p R s m args meth c) (hmc : mc ≤ R.cells) (hms : ms ≤ R.slots) {ix a ci n C1 S1 : Nat} (As : List Value) (st : List Value) {T : u_T} {N : Nat} (n9 : Nat) (hd : decode M.2.1 pc = .ok (.invokevirtual ix, 3)) {Cn : String} (lk : z_LV M.1.cls ix Cn M2) (md : z_MD M2 n9) (hcl : vwCl[ci]? = some (Cn, T, N)) (hCn : M2.1.cls = Cn) (hci : ci < 12) (ha : z_isA h a ci n) (hn : As.length = n9) (hst : st0 = As.reverse ++ .ref a :: st) (hcat : (st.map fun v => v.category).sum ≤ 8) {C2 S2 : Nat} (hC : C = C1 + C2) (hS : S = S1 + S2)
    (ok : Ok g gr d M2 C1 S1 (.ref a :: As) h (fun r h2 => WPl g gr M p e R s m args below meth c mc ms QQ C2 S2 (pc + 3) ls (r.toList ++ st) h2)) : WPl g gr M p e R s m args below meth c mc ms QQ C S pc ls st0 h := by
  intro H locs cells slots real rel lo lv hc hs
  subst hst
  have hts := fx.1.2.2.2.2
  have cb := callB_of (R := R) (own := M.1.cls) (index := ix) (rm := z_rm d C1 S1) (mc := C1) (ms := S1) n9 hts (z_WG md) rfl rfl rfl (hts _ md.2.1) (hts _ lk.1) ⟨md.2.2.1, md.2.2.2.1, md.2.2.2.2.1⟩ (z_room fx.2.2.1 fx.2.2.2.1 md.2.2.2.2.2)
  refine z_run (va_runV (C := Cn) (b := z_rho g a) (As := As.map (z_tr g)) (rest := st.map (z_tr g)) fx.1 ok ⟨cb, hts _ lk.2.1, hts _ lk.2.2⟩ ⟨z_blind, z_recv rel fx.2.1 ha hci hcl, fun U hU hW => ⟨rfl, fx.2.1.moved hW, by rw [hU]; exact rel⟩⟩ rfl (by rw [List.length_map]; exact hn) lv.1 ?_ (by rw [z_catsum]; exact (Nat.zero_add _).symm ▸ hcat) hd ⟨by omega, by omega⟩) lo (fun r h2 H1 locs1 hq rel1 lo1 => ?_)
  · show (As.reverse ++ .ref a :: st).map (z_tr g) = _
    rw [List.map_append, List.map_reverse, List.map_cons]; rfl
  · have := hq H1 locs1 (cells + C1) (slots + S1) real rel1 lo1 lv (by omega) (by omega)
    rw [List.map_append] at this
    exact this
theorem l_callI (fx : z_FX g (d + 1) M p R s m args meth c) (hmc : mc ≤ R.cells) (hms : ms ≤ R.slots) {ix a C1 S1 : Nat} (As : List Value) (st : List Value) (n9 : Nat) (hd : decode M.2.1 pc = .ok (.invokespecial ix, 3)) (lk : z_LI M.1.cls ix M2) (md : z_MD M2 n9) (hn : As.length = n9) (hst : st0 = As.reverse ++ .ref a :: st) (hcat : (st.map fun v => v.category).sum ≤ 8) {C2 S2 : Nat} (hC : C = C1 + C2) (hS : S = S1 + S2)
    (ok : Ok g gr d M2 C1 S1 (.ref a :: As) h (fun r h2 => WPl g gr M p e R s m args below meth c mc ms QQ C2 S2 (pc + 3) ls (r.toList ++ st) h2)) : WPl g gr M p e R s m args below meth c mc ms QQ C S pc ls st0 h := by
  intro H locs cells slots real rel lo lv hc hs
  subst hst
  have hts := fx.1.2.2.2.2
  have hro := z_room (M2 := M2) (C1 := C1) (S1 := S1) fx.2.2.1 fx.2.2.2.1 md.2.2.2.2.2
  obtain ⟨l1, l2, l3, l4⟩ := lk
  obtain ⟨y, bytes, maxL, rt⟩ := M2
  dsimp only at l3
  subst l3
  have hstk : (As.reverse ++ .ref a :: st).map (z_tr g) = (As.map (z_tr g)).reverse ++ .ref (z_rho g a) :: st.map (z_tr g) := by rw [List.map_append, List.map_reverse, List.map_cons]; rfl
  have hrun : va_Run p (g_l g) e R s m args below meth c H locs cells slots C1 S1 (F0 m pc real ((As.reverse ++ .ref a :: st).map (z_tr g))) (st.map (z_tr g)) (fun (_ : State) (o : Outcome) (t : State) => ∃ (r : Option Value) (h2 : zH), o = .returned (r.map (z_tr g)) ∧ WPl g gr M p e R s m args below meth c mc ms QQ C2 S2 (pc + 3) ls (r.toList ++ st) h2 ∧ z_Rel g gr h2 t.heap) (fun q => g_B g ≤ q + 1) := by
    rcases l4 with hl | ⟨host, hl⟩
    · have cb := callB_of (R := R) (own := M.1.cls) (index := ix) (rm := z_rm d C1 S1) (mc := C1) (ms := S1) n9 hts (z_WG md) rfl rfl rfl (hts _ md.2.1) (hts _ hl) ⟨md.2.2.1, md.2.2.2.1, md.2.2.2.2.1⟩ hro
      exact va_runI (b := z_rho g a) (As := As.map (z_tr g)) (rest := st.map (z_tr g)) fx.1 ok ⟨cb, l2, hts _ l1⟩ ⟨z_blind, fun U hU hW => ⟨rfl, fx.2.1.moved hW, by rw [hU]; exact rel⟩⟩ rfl (by rw [List.length_map]; exact hn) lv.1 hstk (by rw [z_catsum]; exact (Nat.zero_add _).symm ▸ hcat) hd ⟨by omega, by omega⟩
    · have cb := va_cnB (R := R) (own := M.1.cls) (index := ix) (rm := z_rm d C1 S1) (mc := C1) (ms := S1) n9 hts (z_WG md) rfl rfl rfl (fx.2.1.2.2.2.1 _ hl) (hts _ md.2.1) ⟨md.2.2.1, md.2.2.2.1, md.2.2.2.2.1⟩ hro
      exact va_runIN (b := z_rho g a) (As := As.map (z_tr g)) (rest := st.map (z_tr g)) fx.1 ok ⟨cb, l2, hts _ l1⟩ ⟨z_blind, fun U hU hW => ⟨rfl, fx.2.1.moved hW, by rw [hU]; exact rel⟩⟩ rfl (by rw [List.length_map]; exact hn) lv.1 hstk (by rw [z_catsum]; exact (Nat.zero_add _).symm ▸ hcat) hd ⟨by omega, by omega⟩
  refine z_run hrun lo (fun r h2 H1 locs1 hq rel1 lo1 => ?_)
  have := hq H1 locs1 (cells + C1) (slots + S1) real rel1 lo1 lv (by omega) (by omega)
  rw [List.map_append] at this
  exact this
theorem l_callS (fx : z_FX g (d + 1) M p R s m args meth c) (hmc : mc ≤ R.cells) (hms : ms ≤ R.slots) {ix C1 S1 : Nat} (As : List Value) (st : List Value) (n9 : Nat) (hd : decode M.2.1 pc = .ok (.invokestatic ix, 3)) (lk : z_LS M.1.cls ix M2) (md : z_MD M2 n9) (hn : As.length = n9) (hst : st0 = As.reverse ++ st) (hcat : (st.map fun v => v.category).sum ≤ 8) {C2 S2 : Nat} (hC : C = C1 + C2) (hS : S = S1 + S2)
    (ok : Ok g gr d M2 C1 S1 As h (fun r h2 => WPl g gr M p e R s m args below meth c mc ms QQ C2 S2 (pc + 3) ls (r.toList ++ st) h2)) : WPl g gr M p e R s m args below meth c mc ms QQ C S pc ls st0 h := by
  intro H locs cells slots real rel lo lv hc hs
  subst hst
  have hts := fx.1.2.2.2.2
  have hro := z_room (M2 := M2) (C1 := C1) (S1 := S1) fx.2.2.1 fx.2.2.2.1 md.2.2.2.2.2
  have hstk : (As.reverse ++ st).map (z_tr g) = (As.map (z_tr g)).reverse ++ st.map (z_tr g) := by rw [List.map_append, List.map_reverse]
  have hrun : va_Run p (g_l g) e R s m args below meth c H locs cells slots C1 S1 (F0 m pc real ((As.reverse ++ st).map (z_tr g))) (st.map (z_tr g)) (fun (_ : State) (o : Outcome) (t : State) => ∃ (r : Option Value) (h2 : zH), o = .returned (r.map (z_tr g)) ∧ WPl g gr M p e R s m args below meth c mc ms QQ C2 S2 (pc + 3) ls (r.toList ++ st) h2 ∧ z_Rel g gr h2 t.heap) (fun q => g_B g ≤ q + 1) := by
    rcases lk.2 with hl | ⟨host, hl⟩
    · have cb := callB_of (R := R) (own := M.1.cls) (index := ix) (rm := z_rm d C1 S1) (mc := C1) (ms := S1) n9 hts (z_WG md) rfl rfl rfl (hts _ md.2.1) (hts _ hl) ⟨md.2.2.1, md.2.2.2.1, md.2.2.2.2.1⟩ hro
      exact va_runS (As := As.map (z_tr g)) (rest := st.map (z_tr g)) fx.1 ok ⟨cb, hts _ lk.1⟩ ⟨z_blind, fun U hU hW => ⟨rfl, fx.2.1.moved hW, by rw [hU]; exact rel⟩⟩ rfl (by rw [List.length_map]; exact hn) lv.1 hstk (by rw [z_catsum]; exact (Nat.zero_add _).symm ▸ hcat) hd ⟨by omega, by omega⟩
    · have cb := va_cnB (R := R) (own := M.1.cls) (index := ix) (rm := z_rm d C1 S1) (mc := C1) (ms := S1) n9 hts (z_WG md) rfl rfl rfl (fx.2.1.2.2.2.1 _ hl) (hts _ md.2.1) ⟨md.2.2.1, md.2.2.2.1, md.2.2.2.2.1⟩ hro
      exact va_runSN (As := As.map (z_tr g)) (rest := st.map (z_tr g)) fx.1 ok ⟨cb, hts _ lk.1, trivial⟩ ⟨z_blind, fun U hU hW => ⟨rfl, fx.2.1.moved hW, by rw [hU]; exact rel⟩⟩ rfl (by rw [List.length_map]; exact hn) lv.1 hstk (by rw [z_catsum]; exact (Nat.zero_add _).symm ▸ hcat) hd ⟨by omega, by omega⟩
  refine z_run hrun lo (fun r h2 H1 locs1 hq rel1 lo1 => ?_)
  have := hq H1 locs1 (cells + C1) (slots + S1) real rel1 lo1 lv (by omega) (by omega)
  rw [List.map_append] at this
  exact this
end ZLoc
section ZLoc2
variable {g : zG} {d : Nat} {M : zM} {C S pc : Nat} {ls st : List Value} {m : zm} {R : Nat → Nat → Option Nat} {p : Program} {e : Env} {Ro : Room} {s : State} {mid : MethodId} {args : Array Value} {below : List Frame} {meth : Method} {c : Code} {mc ms : Nat} {QQ : State → Prop}
theorem l_new (fx : z_FX g d M p Ro s mid args meth c) (hmc : mc ≤ Ro.cells) (hms : ms ≤ Ro.slots) {ix ci N z : Nat} (hd : decode M.2.1 pc = .ok (.new ix, 3)) (F : z_NW M.1.cls ix ci N) (hT : T0 z = (ci, N)) (hz : z + 1 < z_cp) (hR : ∀ k, R z k = none) (hI : ∀ k, m.1 z k = 0 ∧ m.2 z k = 0) (k : WPl g true M p e Ro s mid args below meth c mc ms QQ C S (pc + 3) ls (.ref z :: st) (mkc (z + 1) R m)) : WPl g true M p e Ro s mid args below meth c mc ms QQ (C + 1) (S + N) pc ls st (mkc z R m) := by
  intro H locs cells slots real rel lo lv hc hs
  obtain ⟨Cn, T, f1, f2, f3, f4, f5, f6, f7, f8⟩ := F
  have hts := fx.1.2.2.2.2
  have hKn := fx.2.1.2.1.1 ci _ f1
  have hz9 : z + 1 < 811 := hz
  have er := z_rhoz rel (by omega)
  refine W.newcK fx.1.1 fx.1.2.1 fx.1.2.2.2.1 (hts _ f4) (hts _ f5) (hts _ f6) rfl hd (by omega) (by omega) hKn.2.1 rfl fun H1 kC hkC e1 z1 o1 => ?_
  have r2 : H.size + 1 = g_B g + z := z_sz rel (by show z < 811; omega)
  have rel1 : z_Rel g true (mkc (z + 1) R m) H1 := by
    refine z_pushed rel (Nat.le_succ z) hz (by omega) o1 (fun a ha k => rfl) (fun a h1 h2 => ?_)
    have : a = z := by omega
    subst this
    unfold z_cell
    rw [show z_T (mkc (a + 1) R m) a = (ci, N) from hT, if_pos f7]
    refine ⟨_, f1, ?_⟩
    rw [er]
    refine (u_born (z_ty ci) hts f2 hKn hkC e1 f3).to (fun j hj => ?_)
    rw [z_vl0 hT (hR j) (hI j).1 (hI j).2, z_default (f8 j hj)]
    unfold z_sk
    rw [if_pos f7]
  have := k H1 locs (cells + 1) (slots + N) real rel1 lo lv (by omega) (by omega)
  rw [List.map_cons, show z_tr g (.ref z) = .ref H.size by rw [← er]; rfl] at this
  exact this
end ZLoc2
/-! Draws is made ahead of the object -/
theorem lo_X10_1 : z_LO "GraphNamesLaw$Draws" 1 := ⟨lw_good_at (i := 845) (by decide +kernel) rfl, lw_good_at (i := 64) (by decide +kernel) rfl, lw_good_at (i := 65) (by decide +kernel) rfl⟩
theorem dr_met {l : Launch} {D : va_G} {H : Heap} {a b d : Nat} {V : Nat → Value} (hd : 1 ≤ d) (hV : t_OB a (D.1 9) 2 (D.2 9) H V) : Met l mX10_init.1 (z_W mX10_init) (z_rm d 0 0) (va_Pc [.ref a, .ref b] (fun U => U.heap = H ∧ va_K D vwCl [] U)) (fun _ _ o t => o = .returned none ∧ t_OB a (D.1 9) 2 (D.2 9) t.heap (fun k => if k = 0 then .ref b else V k) ∧ t.heap.size = H.size ∧ ∀ q, q ≠ a → t.heap[q]? = H[q]?) 0 0 (fun q => q = a) := by
  refine Met.ofW (cc := mX10_init.2.1) (maxL := 2) (ret := none) (by decide) rfl ?_
  intro p e s m args below meth c s₁ B hml hv
  obtain ⟨rfl, hH, hK⟩ := hv
  have hts := atoms_spec (ws := z_W mX10_init) B.pre
  have hg : ∀ w ∈ lw_good, w.before _ s = true := fun w hw => hts w (List.mem_cons_of_mem _ hw)
  have hl := lv_entry [.ref a, .ref b] (n := 2) (Nat.le_of_eq rfl)
  rw [lg_entry_eq]
  generalize (lg_sl [Value.ref a, Value.ref b] ++ List.replicate (2 - (lg_sl [Value.ref a, Value.ref b]).length) Slot.unset).toArray = real at hl ⊢
  have r0 : real[0]? = some (.val (.ref a)) := hl.2.2 (0, .ref a) List.mem_cons_self
  have r1 : real[1]? = some (.val (.ref b)) := hl.2.2 (1, .ref b) (List.mem_cons_of_mem _ List.mem_cons_self)
  have hfc := findClass_of_methodNamed B.named
  obtain ⟨Cn, T, N, ty, ref, f1, f2, f3, f4, f5, f6, f7, f8, f9, f10, f11, f12⟩ := fp_X10_7_X10
  have hq : (Cn, T, N) = (RX10, TX10, 2) := Option.some.inj (f1.symm.trans (rfl : vwCl[9]? = some (RX10, TX10, 2)))
  obtain ⟨rfl, rfl, rfl⟩ : Cn = RX10 ∧ T = TX10 ∧ N = 2 := ⟨congrArg (·.1) hq, congrArg (·.2.1) hq, congrArg (·.2.2) hq⟩
  have hap := va_apart (own := RX10) hg f2 ty f3 f4 hK f1
  obtain ⟨hS, hfcC, kC, hkC, hkind⟩ := hK.1 9 _ f1
  obtain ⟨cf, kf, fi, f, hi, hsl⟩ := hS 0 f5
  have hi2 : s.fieldFound? ref (TX10 0).2.1 (TX10 0).2.2.1 = some (cf, kf, fi, f) := by
    rcases f7 with rfl | f7
    · exact hi
    · exact u_same (hg _ f7) _ hi
  have hlay := hg _ (f2 _ (u_in_lay f5))
  have hst := (u_facts hfcC hkC (u_lays hg f2 f5) hi).1
  unfold u_lay at hlay
  rw [f8, if_pos rfl] at hlay
  have hcf : m.cls = cf := by
    obtain ⟨_, _, c', _, _, _, -, -, hf', -, -, -, hown2, -⟩ := Cond.laysFinal_spec hlay
    have e1 : c' = cf := by have := hi.symm.trans hf'; simp at this; exact this.1.symm
    rw [f12 rfl] at hown2
    rw [← e1]; exact Option.some.inj (hfc.symm.trans hown2)
  have hvv : narrow (ty 0) (.ref b) = .ref b ∧ fits (ty 0) (.ref b) = true := by
    generalize ty 0 = t0 at f9
    cases t0 <;> first | exact ⟨rfl, rfl⟩ | (exfalso; revert f9; decide)
  have h6 := u_fits hfcC hkC hkind (Or.inr hlay) hi (f3 0 f5) hvv.1 hvv.2
  obtain ⟨cell, o1, o2, o3, o4⟩ := id hV
  refine lv_aload_n B.exec B.bytes (k := 0) dX10_init_0 rfl r0 ?_
  refine W.objInit B.exec B.bytes hfc (hg _ lo_X10_1.1) (hg _ lo_X10_1.2.1) (hg _ lo_X10_1.2.2) rfl (hl.1.trans hml.symm) (a := a) (rest := []) rfl dX10_init_1 hd (by show 2 * 0 + 0 + 12 ≤ 40 * d; omega) ?_
  refine lv_aload_n B.exec B.bytes (k := 0) dX10_init_4 rfl r0 ?_
  refine lv_aload_n B.exec B.bytes (k := 1) dX10_init_5 rfl r1 ?_
  refine W.putFinK B.exec B.bytes (f := f) hfc (hg _ f6) hi2 hst hcf (name_of_methodNamed B.named B.method).1 (by rw [o2]; exact h6) (by rw [hH]; exact o1) o3 (by rw [hsl]; exact k2_hasslot (o4 0 f5)) rfl rfl dX10_init_6 (fun H' e1 e2 e3 => ?_)
  refine W.vret B.exec B.bytes B.returns (fun t ht _ => ⟨rfl, ⟨cell.setSlot f.slot (.ref b), by rw [ht]; exact e1, o2, o3, fun j hj => ?_⟩, by rw [ht, e2, hH], fun q hq => by rw [ht, e3 q hq, hH]⟩) (fun q hq => by rw [List.nil_append, List.mem_singleton] at hq; rw [hq]) dX10_init_9
  have := t_set o4 hap f5 (.ref b) j hj
  rw [hsl, this]
  simp [updV]
