/-! rules for one run of a method (the law's own start, a method that throws) -/
def WPl (g : zG) (gr : Bool) (M : zM) (p : Program) (e : Env) (R : Room) (s : State) (m : MethodId) (args : Array Value) (below : List Frame) (meth : Method) (c : Code) (mc ms : Nat) (QQ : State → Prop) (C S pc : Nat) (ls st : List Value) (h : zH) : Prop :=
  ∀ (H : Heap) (locs : List Loc) (cells slots : Nat) (real : Array Slot), z_Rel g gr h H → z_lo g (g_B g) locs → lv_has real M.2.2.1 (z_asc g ls 0) → cells + C ≤ mc → slots + S ≤ ms → W p (g_l g) e R s m args below meth c H locs cells slots QQ (F0 m pc real (st.map (z_tr g)))
section ZLoc
variable {g : zG} {gr : Bool} {d : Nat} {M M2 : zM} {C S pc : Nat} {ls st st0 : List Value} {h : zH} {p : Program} {e : Env} {R : Room} {s : State} {m : MethodId} {args : Array Value} {below : List Frame} {meth : Method} {c : Code} {mc ms : Nat} {QQ : State → Prop}
theorem l_of {Q : Option Value → zH → Prop} (fx : z_FX g d M p R s m args meth c) (hmc : mc ≤ R.cells) (hms : ms ≤ R.slots) (ret : z_RET g gr M p e R s m args below meth c mc ms QQ Q) (k : WP g gr d M C S pc ls st h Q) : WPl g gr M p e R s m args below meth c mc ms QQ C S pc ls st h := k p e R s m args below meth c mc ms QQ fx ret hmc hms
theorem l_false (k : WPl g false M p e R s m args below meth c mc ms QQ C S pc ls st h) : WPl g gr M p e R s m args below meth c mc ms QQ C S pc ls st h := by
  intro H locs cells slots real rel lo lv hc hs
  refine k H locs cells slots real ⟨rel.1, ?_, rel.2.2.1, rel.2.2.2⟩ lo lv hc hs
  have h2 := rel.2.1
  cases gr with
  | false => exact h2
  | true =>
    have h3 : H.size + 1 = g_B g + z_z h := by simpa using h2
    show (if false = true then H.size + 1 = g_B g + z_z h else g_B g + z_z h ≤ H.size + 1)
    rw [if_neg (by decide)]
    omega
theorem l_aload_n (fx : z_FX g d M p R s m args meth c) (hmc : mc ≤ R.cells) (hms : ms ≤ R.slots) {kk : Fin 4} {x : Nat} (i : Nat) (hd : decode M.2.1 pc = .ok (.aload_n kk, 1)) (hi : (kk : Nat) = i) (hl : ls[i]? = some (.ref x)) (k : WPl g gr M p e R s m args below meth c mc ms QQ C S (pc + 1) ls (.ref x :: st) h) : WPl g gr M p e R s m args below meth c mc ms QQ C S pc ls (st) h := by
  intro H locs cells slots real rel lo lv hc hs
  exact lv_aload_n fx.1.1 fx.1.2.1 hd hi (z_load lv hl rfl) (k H locs cells slots real rel lo lv hc hs)
theorem l_iload_n (fx : z_FX g d M p R s m args meth c) (hmc : mc ≤ R.cells) (hms : ms ≤ R.slots) {kk : Fin 4} {x : Int32} (i : Nat) (hd : decode M.2.1 pc = .ok (.iload_n kk, 1)) (hi : (kk : Nat) = i) (hl : ls[i]? = some (.int x)) (k : WPl g gr M p e R s m args below meth c mc ms QQ C S (pc + 1) ls (.int x :: st) h) : WPl g gr M p e R s m args below meth c mc ms QQ C S pc ls (st) h := by
  intro H locs cells slots real rel lo lv hc hs
  exact lv_iload_n fx.1.1 fx.1.2.1 hd hi (z_load lv hl rfl) (k H locs cells slots real rel lo lv hc hs)
theorem l_astore_n (fx : z_FX g d M p R s m args meth c) (hmc : mc ≤ R.cells) (hms : ms ≤ R.slots) {kk : Fin 4} {x : Nat} (i : Nat) (hd : decode M.2.1 pc = .ok (.astore_n kk, 1)) (hi : (kk : Nat) = i) (hn : i < M.2.2.1) (hb : z_nl ls i = true) (k : WPl g gr M p e R s m args below meth c mc ms QQ C S (pc + 1) (ls.set i (.ref x)) st h) : WPl g gr M p e R s m args below meth c mc ms QQ C S pc ls (.ref x :: st) h := by
  intro H locs cells slots real rel lo lv hc hs
  exact lv_astore_n fx.1.1 fx.1.2.1 hd hi lv hn rfl (fun ls1 lv1 => (k H locs cells slots ls1 rel lo (z_store (v := .ref x) lv1 hb) hc hs))
theorem l_astoreN_n (fx : z_FX g d M p R s m args meth c) (hmc : mc ≤ R.cells) (hms : ms ≤ R.slots) {kk : Fin 4} (i : Nat) (hd : decode M.2.1 pc = .ok (.astore_n kk, 1)) (hi : (kk : Nat) = i) (hn : i < M.2.2.1) (hb : z_nl ls i = true) (k : WPl g gr M p e R s m args below meth c mc ms QQ C S (pc + 1) (ls.set i (.null)) st h) : WPl g gr M p e R s m args below meth c mc ms QQ C S pc ls (.null :: st) h := by
  intro H locs cells slots real rel lo lv hc hs
  exact lv_astore_nN fx.1.1 fx.1.2.1 hd hi lv hn rfl (fun ls1 lv1 => (k H locs cells slots ls1 rel lo (z_store (v := .null) lv1 hb) hc hs))
theorem l_aloadN_n (fx : z_FX g d M p R s m args meth c) (hmc : mc ≤ R.cells) (hms : ms ≤ R.slots) {kk : Fin 4} (i : Nat) (hd : decode M.2.1 pc = .ok (.aload_n kk, 1)) (hi : (kk : Nat) = i) (hl : ls[i]? = some .null) (k : WPl g gr M p e R s m args below meth c mc ms QQ C S (pc + 1) ls (.null :: st) h) : WPl g gr M p e R s m args below meth c mc ms QQ C S pc ls (st) h := by
  intro H locs cells slots real rel lo lv hc hs
  exact lv_aload_nN fx.1.1 fx.1.2.1 hd hi (z_load lv hl rfl) (k H locs cells slots real rel lo lv hc hs)
theorem l_ifnullN (fx : z_FX g d M p R s m args meth c) (hmc : mc ≤ R.cells) (hms : ms ≤ R.slots) {off : Int} (tgt : Nat) (hd : decode M.2.1 pc = .ok (.ifnull off, 3)) (ht : (pc : Int) + off = (tgt : Int)) (k : WPl g gr M p e R s m args below meth c mc ms QQ C S tgt ls st h) : WPl g gr M p e R s m args below meth c mc ms QQ C S pc ls (.null :: st) h := by
  intro H locs cells slots real rel lo lv hc hs
  exact lv_ifnullN fx.1.1 fx.1.2.1 hd ht (k H locs cells slots real rel lo lv hc hs)
theorem l_ifnullR (fx : z_FX g d M p R s m args meth c) (hmc : mc ≤ R.cells) (hms : ms ≤ R.slots) {off : Int} {x : Nat} (hd : decode M.2.1 pc = .ok (.ifnull off, 3)) (k : WPl g gr M p e R s m args below meth c mc ms QQ C S (pc + 3) ls st h) : WPl g gr M p e R s m args below meth c mc ms QQ C S pc ls (.ref x :: st) h := by
  intro H locs cells slots real rel lo lv hc hs
  exact lv_ifnull fx.1.1 fx.1.2.1 hd (k H locs cells slots real rel lo lv hc hs)
theorem l_if_ne (fx : z_FX g d M p R s m args meth c) (hmc : mc ≤ R.cells) (hms : ms ≤ R.slots) {off : Int} {x : Int32} (tgt : Nat) (hd : decode M.2.1 pc = .ok (.ifCond .ne off, 3)) (ht : (pc : Int) + off = (tgt : Int)) (kt : ¬ x = 0 → WPl g gr M p e R s m args below meth c mc ms QQ C S tgt ls st h) (kf : x = 0 → WPl g gr M p e R s m args below meth c mc ms QQ C S (pc + 3) ls st h) : WPl g gr M p e R s m args below meth c mc ms QQ C S pc ls (.int x :: st) h := by
  intro H locs cells slots real rel lo lv hc hs
  exact lv_if_ne fx.1.1 fx.1.2.1 hd ht (fun q => kt q H locs cells slots real rel lo lv hc hs) (fun q => kf q H locs cells slots real rel lo lv hc hs)
theorem l_dup (fx : z_FX g d M p R s m args meth c) (hmc : mc ≤ R.cells) (hms : ms ≤ R.slots) {v : Value} (hd : decode M.2.1 pc = .ok (.dup, 1)) (hc1 : v.category = 1) (k : WPl g gr M p e R s m args below meth c mc ms QQ C S (pc + 1) ls (v :: v :: st) h) : WPl g gr M p e R s m args below meth c mc ms QQ C S pc ls (v :: st) h := by
  intro H locs cells slots real rel lo lv hc hs
  exact lv_dup fx.1.1 fx.1.2.1 hd ((z_tr_cat g v).trans hc1) (k H locs cells slots real rel lo lv hc hs)
theorem l_iconst (fx : z_FX g d M p R s m args meth c) (hmc : mc ≤ R.cells) (hms : ms ≤ R.slots) {n : Int} (v : Int32) (hd : decode M.2.1 pc = .ok (.iconst n, 1)) (hv : Int32.ofInt n = v) (k : WPl g gr M p e R s m args below meth c mc ms QQ C S (pc + 1) ls (.int v :: st) h) : WPl g gr M p e R s m args below meth c mc ms QQ C S pc ls (st) h := by
  intro H locs cells slots real rel lo lv hc hs
  exact lv_iconst fx.1.1 fx.1.2.1 hd hv (k H locs cells slots real rel lo lv hc hs)
theorem l_istore (fx : z_FX g d M p R s m args meth c) (hmc : mc ≤ R.cells) (hms : ms ≤ R.slots) {x : Int32} {i : Nat} (hd : decode M.2.1 pc = .ok (.istore i, 2)) (hn : i < M.2.2.1) (hb : z_nl ls i = true) (k : WPl g gr M p e R s m args below meth c mc ms QQ C S (pc + 2) (ls.set i (.int x)) st h) : WPl g gr M p e R s m args below meth c mc ms QQ C S pc ls (.int x :: st) h := by
  intro H locs cells slots real rel lo lv hc hs
  exact lv_istore fx.1.1 fx.1.2.1 hd lv hn rfl (fun ls1 lv1 => (k H locs cells slots ls1 rel lo (z_store (v := .int x) lv1 hb) hc hs))
theorem l_callV (fx : z_FX g (d + 1) M p R s m args meth c) (hmc : mc ≤ R.cells) (hms : ms ≤ R.slots) {ix a ci n C1 S1 : Nat} (As : List Value) (st : List Value) {T : u_T} {N : Nat} (n9 : Nat) (hd : decode M.2.1 pc = .ok (.invokevirtual ix, 3)) {Cn : String} (lk : z_LV M.1.cls ix Cn M2) (md : z_MD M2 n9) (hcl : vwCl[ci]? = some (Cn, T, N)) (hCn : M2.1.cls = Cn) (hci : ci < 10) (ha : z_isA h a ci n) (hn : As.length = n9) (hst : st0 = As.reverse ++ .ref a :: st) (hcat : (st.map fun v => v.category).sum ≤ 8) {C2 S2 : Nat} (hC : C = C1 + C2) (hS : S = S1 + S2)
    (ok : Ok g gr d M2 C1 S1 (.ref a :: As) h (fun r h2 => WPl g gr M p e R s m args below meth c mc ms QQ C2 S2 (pc + 3) ls (r.toList ++ st) h2)) : WPl g gr M p e R s m args below meth c mc ms QQ C S pc ls st0 h := by
  intro H locs cells slots real rel lo lv hc hs
  subst hst
  have hts := fx.1.2.2.2.2
  have cb := callB_of (R := R) (own := M.1.cls) (index := ix) (rm := z_rm d C1 S1) (mc := C1) (ms := S1) n9 hts (z_WG md) rfl rfl rfl (hts _ md.2.1) (hts _ lk.1) ⟨md.2.2.1, md.2.2.2.1, md.2.2.2.2.1⟩ (z_room fx.2.2.1 fx.2.2.2.1 md.2.2.2.2.2)
  refine z_run (va_runV (C := Cn) (b := z_rho g a) (As := As.map (z_tr g)) (rest := st.map (z_tr g)) fx.1 ok ⟨cb, hts _ lk.2.1, hts _ lk.2.2⟩ ⟨z_blind, z_recv rel fx.2.1 ha hci hcl, fun U hU hW => ⟨rfl, fx.2.1.moved hW, by rw [hU]; exact rel⟩⟩ rfl (by rw [List.length_map]; exact hn) lv.1 ?_ (by rw [z_catsum]; exact (Nat.zero_add _).symm ▸ hcat) hd ⟨by omega, by omega⟩) lo (fun r h2 H1 locs1 hq rel1 lo1 => ?_)
  · show (As.reverse ++ .ref a :: st).map (z_tr g) = _
    rw [List.map_append, List.map_reverse, List.map_cons]; rfl
  · have := hq H1 locs1 (cells + C1) (slots + S1) real rel1 lo1 lv (by omega) (by omega)
    rw [List.map_append] at this
    exact this
theorem l_callI (fx : z_FX g (d + 1) M p R s m args meth c) (hmc : mc ≤ R.cells) (hms : ms ≤ R.slots) {ix a C1 S1 : Nat} (As : List Value) (st : List Value) (n9 : Nat) (hd : decode M.2.1 pc = .ok (.invokespecial ix, 3)) (lk : z_LI M.1.cls ix M2) (md : z_MD M2 n9) (hn : As.length = n9) (hst : st0 = As.reverse ++ .ref a :: st) (hcat : (st.map fun v => v.category).sum ≤ 8) {C2 S2 : Nat} (hC : C = C1 + C2) (hS : S = S1 + S2)
    (ok : Ok g gr d M2 C1 S1 (.ref a :: As) h (fun r h2 => WPl g gr M p e R s m args below meth c mc ms QQ C2 S2 (pc + 3) ls (r.toList ++ st) h2)) : WPl g gr M p e R s m args below meth c mc ms QQ C S pc ls st0 h := by
  intro H locs cells slots real rel lo lv hc hs
  subst hst
  have hts := fx.1.2.2.2.2
  have hro := z_room (M2 := M2) (C1 := C1) (S1 := S1) fx.2.2.1 fx.2.2.2.1 md.2.2.2.2.2
  obtain ⟨l1, l2, l3, l4⟩ := lk
  obtain ⟨y, bytes, maxL, rt⟩ := M2
  dsimp only at l3
  subst l3
  have hstk : (As.reverse ++ .ref a :: st).map (z_tr g) = (As.map (z_tr g)).reverse ++ .ref (z_rho g a) :: st.map (z_tr g) := by rw [List.map_append, List.map_reverse, List.map_cons]; rfl
  have hrun : va_Run p (g_l g) e R s m args below meth c H locs cells slots C1 S1 (F0 m pc real ((As.reverse ++ .ref a :: st).map (z_tr g))) (st.map (z_tr g)) (fun (_ : State) (o : Outcome) (t : State) => ∃ (r : Option Value) (h2 : zH), o = .returned (r.map (z_tr g)) ∧ WPl g gr M p e R s m args below meth c mc ms QQ C2 S2 (pc + 3) ls (r.toList ++ st) h2 ∧ z_Rel g gr h2 t.heap) (fun q => g_B g ≤ q) := by
    rcases l4 with hl | ⟨host, hl⟩
    · have cb := callB_of (R := R) (own := M.1.cls) (index := ix) (rm := z_rm d C1 S1) (mc := C1) (ms := S1) n9 hts (z_WG md) rfl rfl rfl (hts _ md.2.1) (hts _ hl) ⟨md.2.2.1, md.2.2.2.1, md.2.2.2.2.1⟩ hro
      exact va_runI (b := z_rho g a) (As := As.map (z_tr g)) (rest := st.map (z_tr g)) fx.1 ok ⟨cb, l2, hts _ l1⟩ ⟨z_blind, fun U hU hW => ⟨rfl, fx.2.1.moved hW, by rw [hU]; exact rel⟩⟩ rfl (by rw [List.length_map]; exact hn) lv.1 hstk (by rw [z_catsum]; exact (Nat.zero_add _).symm ▸ hcat) hd ⟨by omega, by omega⟩
    · have cb := va_cnB (R := R) (own := M.1.cls) (index := ix) (rm := z_rm d C1 S1) (mc := C1) (ms := S1) n9 hts (z_WG md) rfl rfl rfl (fx.2.1.2.2.2.1 _ hl) (hts _ md.2.1) ⟨md.2.2.1, md.2.2.2.1, md.2.2.2.2.1⟩ hro
      exact va_runIN (b := z_rho g a) (As := As.map (z_tr g)) (rest := st.map (z_tr g)) fx.1 ok ⟨cb, l2, hts _ l1⟩ ⟨z_blind, fun U hU hW => ⟨rfl, fx.2.1.moved hW, by rw [hU]; exact rel⟩⟩ rfl (by rw [List.length_map]; exact hn) lv.1 hstk (by rw [z_catsum]; exact (Nat.zero_add _).symm ▸ hcat) hd ⟨by omega, by omega⟩
  refine z_run hrun lo (fun r h2 H1 locs1 hq rel1 lo1 => ?_)
  have := hq H1 locs1 (cells + C1) (slots + S1) real rel1 lo1 lv (by omega) (by omega)
  rw [List.map_append] at this
  exact this
end ZLoc
section ZLoc2
variable {g : zG} {d : Nat} {M : zM} {C S pc : Nat} {ls st : List Value} {m : zm} {R : Nat → Nat → Option Nat} {p : Program} {e : Env} {Ro : Room} {s : State} {mid : MethodId} {args : Array Value} {below : List Frame} {meth : Method} {c : Code} {mc ms : Nat} {QQ : State → Prop}
theorem l_new (fx : z_FX g d M p Ro s mid args meth c) (hmc : mc ≤ Ro.cells) (hms : ms ≤ Ro.slots) {ix ci N z : Nat} (hd : decode M.2.1 pc = .ok (.new ix, 3)) (F : z_NW M.1.cls ix ci N) (hT : T0 z = (ci, N)) (hz : z + 1 < z_top) (hR : ∀ k, R z k = none) (hI : ∀ k, m.1 z k = 0 ∧ m.2 z k = 0) (k : WPl g true M p e Ro s mid args below meth c mc ms QQ C S (pc + 3) ls (.ref z :: st) (mkc (z + 1) R m)) : WPl g true M p e Ro s mid args below meth c mc ms QQ (C + 1) (S + N) pc ls st (mkc z R m) := by
  intro H locs cells slots real rel lo lv hc hs
  obtain ⟨Cn, T, f1, f2, f3, f4, f5, f6, f7, f8⟩ := F
  have hts := fx.1.2.2.2.2
  have hKn := fx.2.1.2.1.1 ci _ f1
  have er := z_rhoz rel
  refine W.newcK fx.1.1 fx.1.2.1 fx.1.2.2.2.1 (hts _ f4) (hts _ f5) (hts _ f6) rfl hd (by omega) (by omega) hKn.2.1 rfl fun H1 kC hkC e1 z1 o1 => ?_
  have r2 : H.size + 1 = g_B g + z := by have := rel.2.1; simpa using this
  have rel1 : z_Rel g true (mkc (z + 1) R m) H1 := by
    refine z_pushed rel (Nat.le_succ z) hz (by omega) o1 (fun a ha k => rfl) (fun a h1 h2 => ?_)
    have : a = z := by omega
    subst this
    unfold z_cell
    rw [show z_T (mkc (a + 1) R m) a = (ci, N) from hT, if_pos f7]
    refine ⟨_, f1, ?_⟩
    rw [er]
    refine (u_born (z_ty ci) hts f2 hKn hkC e1 f3).to (fun j hj => ?_)
    rw [z_vl0 hT (hR j) (hI j).1 (hI j).2, z_default (f8 j hj)]
    unfold z_sk
    rw [if_pos f7]
  have := k H1 locs (cells + 1) (slots + N) real rel1 lo lv (by omega) (by omega)
  rw [List.map_cons, show z_tr g (.ref z) = .ref H.size by rw [← er]; rfl] at this
  exact this
theorem l_newarr (fx : z_FX g d M p Ro s mid args meth c) (hmc : mc ≤ Ro.cells) (hms : ms ≤ Ro.slots) {at_ : ArrayType} {t N z : Nat} {n : Int32} (hd : decode M.2.1 pc = .ok (.newarray at_, 2)) (ht : newarray.typeOf at_ = z_et t) (ht2 : 20 ≤ t ∧ t ≤ 22) (hw : Cond.arrayClass (newarray.typeOf at_) ∈ lw_good) (hn : ¬ n < 0) (hN : n.toNatClampNeg = N) (hN2 : N ≤ 10000) (hT : T0 z = (t, N)) (hz : z + 1 < z_top) (hI : ∀ k, m.1 z k = 0 ∧ m.2 z k = 0) (k : WPl g true M p e Ro s mid args below meth c mc ms QQ C S (pc + 2) ls (.ref z :: st) (mkc (z + 1) R m)) : WPl g true M p e Ro s mid args below meth c mc ms QQ (C + 1) (S + N) pc ls (.int n :: st) (mkc z R m) := by
  intro H locs cells slots real rel lo lv hc hs
  have hts := fx.1.2.2.2.2
  have er := z_rhoz rel
  have r2 : H.size + 1 = g_B g + z := by have := rel.2.1; simpa using this
  have hcb : componentBytes (newarray.typeOf at_) ≤ 8 := by rw [ht]; rcases ht2 with ⟨h1, h2⟩; have : t = 20 ∨ t = 21 ∨ t = 22 := by omega
                                                            rcases this with rfl | rfl | rfl <;> decide
  refine va_newaK fx.1.1 fx.1.2.1 (hts _ hw) rfl hd rfl hn hN (Nat.le_trans (Nat.mul_le_mul hN2 hcb) (by decide)) (by omega) (by omega) rfl fun H1 cA e1 z1 o1 hA hNm => ?_
  have hcA : cA = (g_D g).1 t := by
    have h1 := (fx.2.1.2.2.1 t (by omega) (by omega)).2
    rw [ht] at hNm
    have : t = 20 ∨ t = 21 ∨ t = 22 := by omega
    rcases this with rfl | rfl | rfl <;> exact Option.some.inj (hNm.symm.trans h1)
  have rel1 : z_Rel g true (mkc (z + 1) R m) H1 := by
    refine z_pushed rel (Nat.le_succ z) hz (by omega) o1 (fun a ha k => rfl) (fun a h1 h2 => ?_)
    have : a = z := by omega
    subst this
    unfold z_cell
    rw [show z_T (mkc (a + 1) R m) a = (t, N) from hT, if_neg (show ¬ (t < 10) by omega), er, e1, hcA]
    congr 2
    funext j
    unfold z_vl
    show _ = (if z_sk (T0 a).1 j = 2 then Value.long (m.2 a j) else if z_sk (T0 a).1 j = 3 then va_rf ((R a j).map (z_rho g)) else .int (m.1 a j))
    rw [hT, (hI j).1, (hI j).2, ht]
    have : t = 20 ∨ t = 21 ∨ t = 22 := by omega
    rcases this with rfl | rfl | rfl <;> rfl
  have := k H1 locs (cells + 1) (slots + N) real rel1 lo lv (by omega) (by omega)
  rw [List.map_cons, show z_tr g (.ref z) = .ref H.size by rw [← er]; rfl] at this
  exact this
end ZLoc2
