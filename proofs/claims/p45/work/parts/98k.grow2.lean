/-! copies of rows of bytes, calls of what lies above -/
theorem dJ5_length_8abf5_0 : decode cJ5_length_8abf5 0 = .ok (.aload_n 0, 1) := by decide +kernel
theorem dJ5_length_8abf5_1 : decode cJ5_length_8abf5 1 = .ok (.getfield 79, 3) := by decide +kernel
theorem dJ5_length_8abf5_4 : decode cJ5_length_8abf5 4 = .ok (.ireturn, 1) := by decide +kernel
theorem dJ4_length_8abf5_0 : decode cJ4_length_8abf5 0 = .ok (.aload_n 0, 1) := by decide +kernel
theorem dJ4_length_8abf5_1 : decode cJ4_length_8abf5 1 = .ok (.invokespecial 343, 3) := by decide +kernel
theorem dJ4_length_8abf5_4 : decode cJ4_length_8abf5 4 = .ok (.ireturn, 1) := by decide +kernel
theorem dJ5_getValue_6d5f1_0 : decode cJ5_getValue_6d5f1 0 = .ok (.aload_n 0, 1) := by decide +kernel
theorem dJ5_getValue_6d5f1_1 : decode cJ5_getValue_6d5f1 1 = .ok (.getfield 15, 3) := by decide +kernel
theorem dJ5_getValue_6d5f1_4 : decode cJ5_getValue_6d5f1 4 = .ok (.areturn, 1) := by decide +kernel
section ZGrow2
variable {g : zG} {gr : Bool} {d : Nat} {M M2 : zM} {C S pc : Nat} {ls st st0 : List Value} {h : zH} {Q : Option Value → zH → Prop}
def z_LSU (own : String) (ix : Nat) (M2 : zM) : Prop := Cond.methodLink own ix M2.1 ∈ lw_good ∧ Cond.sameMethod M2.1.cls M2.1.cls M2.1.name M2.1.desc ∈ lw_good ∧ Cond.superclass own M2.1.cls ∈ lw_good ∧ Cond.instanceMethod M2.1 ∈ lw_good ∧ M2.1.name ≠ "<init>"
theorem r_callSU {ix a ci n C1 S1 : Nat} (As : List Value) (st : List Value) {T : u_T} {N : Nat} (n9 : Nat) (hd : decode M.2.1 pc = .ok (.invokespecial ix, 3)) {Cn : String} (lk : z_LSU M.1.cls ix M2) (md : z_MD M2 n9) (hcl : vwCl[ci]? = some (Cn, T, N)) (hci : ci < 12) (ha : z_isA h a ci n) (hn : As.length = n9) (hst : st0 = As.reverse ++ .ref a :: st) (hcat : (st.map fun v => v.category).sum ≤ 8) {C2 S2 : Nat} (hC : C = C1 + C2) (hS : S = S1 + S2)
    (ok : Ok g gr d M2 C1 S1 (.ref a :: As) h (fun r h2 => WP g gr (d + 1) M C2 S2 (pc + 3) ls (r.toList ++ st) h2 Q)) : WP g gr (d + 1) M C S pc ls st0 h Q := by
  intro p e R s m args below meth c mc ms QQ fx ret hmc hms H locs cells slots real rel lo lv hc hs
  subst hst
  have hts := fx.1.2.2.2.2
  obtain ⟨k1, k2, k3, k4, k5⟩ := lk
  have hG : GoodIn lw_good (va_wsSU M.1.cls ix M2.1 (z_W M2)) := by
    intro w hw
    unfold va_wsSU at hw
    rcases List.mem_append.mp hw with hw | hw
    · simp only [List.mem_cons, List.not_mem_nil, or_false] at hw
      rcases hw with rfl | rfl | rfl | rfl | rfl
      · exact lw_good_g _ k1
      · exact lw_good_g _ k2
      · exact lw_good_g _ k3
      · exact lw_good_g _ k4
      · exact lw_good_g _ md.2.1
    · exact z_WG md w hw
  have hro := z_room (M2 := M2) (C1 := C1) (S1 := S1) fx.2.2.1 fx.2.2.2.1 md.2.2.2.2.2
  have cu : va_CS R s args M.1.cls ix M2.1 M2.2.1 M2.2.2.1 M2.2.2.2 (z_W M2) (z_rm d C1 S1) C1 S1 n9 := va_cwSU n9 hts hG rfl rfl rfl ⟨k5, md.2.2.2.2.1⟩ hro
  refine z_run (va_runSU (C := Cn) (b := z_rho g a) (As := As.map (z_tr g)) (rest := st.map (z_tr g)) (fx.2.1.2.1.1 ci _ hcl).2 fx.1 ok cu ⟨z_blind, z_recv rel fx.2.1 ha hci hcl, fun U hU hW => ⟨rfl, fx.2.1.moved hW, by rw [hU]; exact rel⟩⟩ rfl (by rw [List.length_map]; exact hn) lv.1 ?_ (by rw [z_catsum]; exact (Nat.zero_add _).symm ▸ hcat) hd ⟨by omega, by omega⟩) lo (fun r h2 H1 locs1 hq rel1 lo1 => ?_)
  · show (As.reverse ++ .ref a :: st).map (z_tr g) = _
    rw [List.map_append, List.map_reverse, List.map_cons]; rfl
  · have := hq p e R s m args below meth c mc ms QQ fx ret hmc hms H1 locs1 (cells + C1) (slots + S1) real rel1 lo1 lv (by omega) (by omega)
    rw [List.map_append] at this
    exact this
theorem lw_nest_args {w : Cond} (hw : w ∈ lw_nest) {s : State} {a a' : Array Value} (h : w.before a s = true) : w.before a' s = true := by
  have h2 := (List.mem_filter.mp hw).2
  cases w <;> first | (simp [z_nest] at h2; done) | exact va_tabs rfl (rfl : s.vm = s.vm) h | exact h
theorem r_ineg {x v : Int32} (hd : decode M.2.1 pc = .ok (.ineg, 1)) (hv : -x = v) (k : WP g gr d M C S (pc + 1) ls (.int v :: st) h Q) : WP g gr d M C S pc ls (.int x :: st) h Q := by
  intro p e R s m args below meth c mc ms QQ fx ret hmc hms H locs cells slots real rel lo lv hc hs
  subst hv
  exact lv_ineg fx.1.1 fx.1.2.1 hd (k p e R s m args below meth c mc ms QQ fx ret hmc hms H locs cells slots real rel lo lv hc hs)
theorem z_fcB {s : State} (kk : z_KK g s) : s.vm.findClass "[B" = some ((g_D g).1 29) := (kk.2.2.1 29 (by decide) (by decide)).2
theorem r_castB {ix a n : Nat} (hd : decode M.2.1 pc = .ok (.checkcast ix, 3)) (hl : Cond.classLink M.1.cls ix "[B" ∈ lw_good) (ha : z_isA h a 29 n) (k : WP g gr d M C S (pc + 3) ls (.ref a :: st) h Q) : WP g gr d M C S pc ls (.ref a :: st) h Q := by
  intro p e R s m args below meth c mc ms QQ fx ret hmc hms H locs cells slots real rel lo lv hc hs
  have := k p e R s m args below meth c mc ms QQ fx ret hmc hms H locs cells slots real rel lo lv hc hs
  exact va_castE fx.1.1 fx.1.2.1 fx.1.2.2.2.1 (fx.1.2.2.2.2 _ hl) ⟨_, z_arr rel ha (by decide), rfl, z_fcB fx.2.1⟩ hd this
def z_LCl (own : String) (ix : Nat) : Prop := Cond.methodLink own ix ⟨"[B", "clone", "()Ljava/lang/Object;"⟩ ∈ lw_good ∧ Cond.sameMethod "[B" "java/lang/Object" "clone" "()Ljava/lang/Object;" ∈ lw_good ∧ Cond.native Jvm.Free.XT.objClone ∈ lw_good ∧ Cond.instanceMethod Jvm.Free.XT.objClone ∈ lw_good ∧ Cond.selects "[B" ⟨"[B", "clone", "()Ljava/lang/Object;"⟩ Jvm.Free.XT.objClone ∈ lw_good ∧ Cond.castable "[B" "java/lang/Cloneable" ∈ lw_nest
theorem z_pushH {h' : zH} {H H' : Heap} (rel : z_Rel g true h H) (hz : 811 ≤ z_z h) (hz2 : z_z h + 1 < z_top) (ez : z_z h' = z_z h + 1) (eT : ∀ a, a < z_z h → z_T h' a = z_T h a) (ev : ∀ a k, a < z_z h → z_vl g h' a k = z_vl g h a k) (hs : H'.size = H.size + 1) (ho : ∀ q, q < H.size → H'[q]? = H[q]?) (hc : z_cell g h' (z_z h) H') : z_Rel g true h' H' := by
  have er := z_szG rel hz
  obtain ⟨r1, r2, ⟨r3, r4, r5, r6⟩, r7⟩ := id rel
  have e2 : H.size = z_nx g (z_z h) := by simpa using r2
  have e3 := e2
  unfold z_nx at e3
  rw [if_neg (by omega)] at e3
  have r6 := r6 (by omega)
  refine ⟨fun q hq => ?_, ?_, ⟨by rw [ez]; omega, by rw [ez]; exact hz2, r5, fun _ => r6⟩, fun a a0 a1 => ?_⟩
  · rw [ez] at hq
    unfold z_kn at hq
    rw [if_neg (by omega)] at hq
    rw [ho q (by omega)]
    exact r1 q (by unfold z_kn; rw [if_neg (by omega)]; exact hq)
  · rw [ez]
    show (if true = true then H'.size = z_nx g (z_z h + 1) else _)
    rw [if_pos rfl]
    unfold z_nx
    rw [if_neg (by omega)]
    omega
  · rw [ez] at a1
    by_cases ha : a = z_z h
    · subst ha; exact hc
    · have h2 : z_rho g a < H.size := by
        by_cases h8 : a < 811
        · by_cases h9 : a = 810
          · subst h9; rw [z_rho_2]; omega
          · rw [z_rho_1 a0 (by omega)]; omega
        · rw [z_rho_3 (by omega) (by omega)]; omega
      exact z_cell_kept (r7 a a0 (by omega)) (eT a (by omega)) (fun k => ev a k (by omega)) (ho _ h2)
theorem r_cloneB {ix a n : Nat} (hd : decode M.2.1 pc = .ok (.invokevirtual ix, 3)) (lk : z_LCl M.1.cls ix) (ha : z_isA h a 29 n) (hn : n ≤ 10000) (hf : ∀ j, j < n → fits .byte (.int (z_I h a j)) = true) (hz : 811 ≤ z_z h) (hz2 : z_z h + 1 < z_top) (hd1 : 1 ≤ d) (hcat : (st.map fun v => v.category).sum ≤ 8) (k : WP g true d M C S (pc + 3) ls (.ref (z_z h) :: st) (hcp (hnew h 29 n) (z_z h) 0 n (z_I h a)) Q) : WP g true d M (C + 1) (S + n) pc ls (.ref a :: st) h Q := by
  intro p e R s mid args below meth c mc ms QQ fx ret hmc hms H locs cells slots real rel lo lv hcc hss T hT X
  have hts := fx.1.2.2.2.2
  have er := z_szG rel hz
  have h0 := z_arr rel ha (by decide)
  have hvl : z_vl g h a = fun j => .int (z_I h a j) := funext fun j => z_vl_byte ha.2.2 rfl
  rw [hvl] at h0
  obtain ⟨l1, l2, l3, l4, l5, l6⟩ := lk
  obtain ⟨cA, cC, q1, q2, q3⟩ := Cond.castable_spec (fx.2.1.2.2.2.1 _ l6)
  have q0 := z_fcB fx.2.1
  have q1 : s.vm.findClass "[B" = some cA := q1
  have q2 : s.vm.findClass "java/lang/Cloneable" = some cC := q2
  have q3 : s.vm.assignable cA cC = true := q3
  obtain rfl : (g_D g).1 29 = cA := Option.some.inj (q0.symm.trans q1)
  obtain ⟨-, kA, hkA, compA, hkkA⟩ := State.isArrayOf_alike X.warmed.alike ((fx.2.1.2.2.1 29 (by decide) (by decide)).1 n (fun j => .int (z_I h a j)))
  obtain ⟨-, kS, hkS, compS, hkkS⟩ := (fx.2.1.2.2.1 29 (by decide) (by decide)).1 n (fun j => Value.int (z_I h a j))
  obtain ⟨vm', X2, step⟩ := X.cloneArray fx.1.1 (own := M.1.cls) (ad := "[B") (index := ix) fx.1.2.2.2.1 (hts _ l1) (hts _ l2) (hts _ l3) (hts _ l4) (hts _ l5) (a := z_rho g a) (cell := arrV ((g_D g).1 29) n (fun j => .int (z_I h a j))) (cC := cC)
    (by rw [hT]; exact h0) (fun _ q => by cases q) (fun q => by cases q) q0 q2 q3 (fun i v hv => by
      by_cases hi : i < n
      · rw [arrV_read _ _ hi] at hv
        cases hv
        exact Jvm.Lib.ArrayList.add.fitsSlot_array (c := arrV ((g_D g).1 29) n (fun j => Value.int (z_I h a j))) hkA hkkA (fun _ q => by cases q) (hf i hi)
      · rw [Array.getElem?_eq_none (by rw [arrV_size]; omega)] at hv
        cases hv)
    (g := F0 mid pc real ((.ref a :: st).map (z_tr g))) rfl (by rw [fx.1.2.2.1]; exact lv.1) (rest := st.map (z_tr g)) rfl (by rw [fx.1.2.1]; exact hd) (by have := fx.2.2.1; omega) (by
      have : ((st.map (z_tr g)).map fun v => v.category).sum ≤ 8 := by rw [z_catsum]; exact hcat
      have h9 := fx.2.2.2.1
      show 2 * 0 + _ + 14 ≤ _
      omega) (by omega) (by rw [arrV_size]; omega) (Vm.clonesLoader_of_array hkS hkkS)
  rw [arrV_size] at X2
  have hB : ({ cls := (arrV ((g_D g).1 29) n (fun j => Value.int (z_I h a j))).cls, slots := (arrV ((g_D g).1 29) n (fun j => Value.int (z_I h a j))).slots } : Cell) = arrV ((g_D g).1 29) n (fun j => Value.int (z_I h a j)) := rfl
  rw [hB] at X2 step
  generalize hBB : arrV ((g_D g).1 29) n (fun j => Value.int (z_I h a j)) = B at X2 step
  have hB : B = arrV ((g_D g).1 29) n (fun j => .int (z_I h a j)) := hBB.symm
  have rel2 : z_Rel g true (hcp (hnew h 29 n) (z_z h) 0 n (z_I h a)) (H.push B) := by
    refine z_pushH rel hz hz2 rfl (fun b hb => if_neg (by omega)) (fun b k2 hb => ?_) (by simp) (fun q hq => by simp [Array.getElem?_push, Nat.ne_of_lt hq]) ?_
    · have e1 : z_I (hcp (hnew h 29 n) (z_z h) 0 n (z_I h a)) b k2 = z_I h b k2 := by rw [hcp_I, if_neg (fun q => by omega), hnew_I, if_neg (by omega)]
      unfold z_vl
      rw [e1]
      show (if z_sk (if b = z_z h then (29, n) else z_T h b).1 k2 = 2 then Value.long (if b = z_z h then 0 else z_L h b k2) else if z_sk (if b = z_z h then (29, n) else z_T h b).1 k2 = 3 then va_rf ((if b = z_z h then none else z_R h b k2).map (z_rho g)) else .int (z_I h b k2)) = _
      rw [if_neg (show ¬ b = z_z h by omega), if_neg (show ¬ b = z_z h by omega), if_neg (show ¬ b = z_z h by omega)]
    · have ib : z_isA (hcp (hnew h 29 n) (z_z h) 0 n (z_I h a)) (z_z h) 29 n := hnew_isA hz
      unfold z_cell
      rw [ib.2.2, if_neg (show ¬ (29 < 12) by decide), er]
      have : (H.push B)[H.size]? = some B := by simp
      rw [this, hB, arrV_congr (f' := z_vl g (hcp (hnew h 29 n) (z_z h) 0 n (z_I h a)) (z_z h)) (fun j hj => by
        rw [z_vl_byte ib.2.2 rfl, hcp_I, if_pos ⟨rfl, Nat.zero_le _, by omega⟩]; rfl)]
  have hheap : ((T.setVm vm').pushCell B).heap = H.push B := by rw [← hT]; rfl
  have k2 := k p e R s mid args below meth c mc ms QQ fx ret hmc hms (H.push B) locs (cells + 1) (slots + n) real rel2 lo lv (by omega) (by omega)
  rw [List.map_cons, show z_tr g (.ref (z_z h)) = .ref H.size by rw [← er]; rfl] at k2
  obtain ⟨t, a1, b1⟩ := k2 _ hheap X2
  rw [← hT] at a1
  exact ⟨t, step t a1, b1⟩
end ZGrow2
