/-! the law's own row: it catches -/
abbrev mL_row : zM := (yL_row, cL_row, 5, some .int)
def wL_row : List Cond := Cond.codeWith yL_row cL_row 5 (some .int) [(0, 10, 13, 13)] :: lw_good
theorem lw_lrow : Cond.codeWith yL_row cL_row 5 (some .int) [(0, 10, 13, 13)] ∈ lw_good := lw_good_at (i := 1111) (by decide +kernel) rfl
theorem z_cast : Cond.castable z_NS z_NS ∈ lw_nest := lw_nest_at (i := 1119) (by decide +kernel) rfl
/-- the law's row as a contract -/
def OkR (g : zG) (d : Nat) (C S : Nat) (av : List Value) (h : zH) (Q : Option Value → zH → Prop) : Prop :=
  Met (g_l g) yL_row wL_row (z_rm d C S) (va_Pc (av.map (z_tr g)) (fun U => z_KK g U ∧ z_Rel g false h U.heap)) (fun _ _ o t => ∃ (r : Option Value) (h2 : zH), o = .returned (r.map (z_tr g)) ∧ Q r h2 ∧ z_Rel g false h2 t.heap) C S (fun q => g_B g ≤ q)
section ZLr
variable {g : zG} {d : Nat} {m : zm}
theorem k_lrow {l1 l2 : Int32} {Q : Option Value → zH → Prop} (hst : (g_l g).stackTraces = false) (hd : 7 ≤ d) (H : (l1 < 0 → Q (some (.int 1)) (mk m)) ∧ (¬ l1 < 0 → (((3 : Int32) ≤ l1 → Q (some (.int 1)) (mk m)) ∧ (¬ (3 : Int32) ≤ l1 → (vp_in l1 3 ∧ ((tX1_has m (272 + 140 * l1.toNatClampNeg) l2 → (vp_in l2 7 ∧ Q (some (.int 0)) (mk (wL m 841 0 (m.1 (272 + 140 * l1.toNatClampNeg + 11) l2.toNatClampNeg).toInt64)))) ∧ (¬ tX1_has m (272 + 140 * l1.toNatClampNeg) l2 → Q (some (.int 1)) (mk m)))))))) : OkR g d 1 6 [.ref 1, .int l1, .int l2, .ref 841] (mk m) Q := by
  obtain ⟨d, rfl⟩ := dn hd
  refine va_MetW (cc := cL_row) (maxL := 5) (ret := some .int) (hh := [(0, 10, 13, 13)]) (ws' := lw_good) (by decide) rfl ?_
  intro p e s m0 args below meth c s₁ B hml hv
  obtain ⟨rfl, kk, rel⟩ := hv
  obtain ⟨real, ef, lv⟩ := l_entry (g := g) (av := [.ref 1, .int l1, .int l2, .ref 841]) (nL := 5) (ls := [.ref 1, .int l1, .int l2, .ref 841, .retAddr 0]) m0 rfl (Nat.le_of_ble_eq_true rfl) rfl
  rw [ef]
  have hts := atoms_spec (ws := wL_row) B.pre
  have hts2 : ∀ w ∈ lw_good, w.before ([Value.ref 1, .int l1, .int l2, .ref 841].map (z_tr g)).toArray s = true := fun w hw => hts w (List.mem_cons_of_mem _ hw)
  have fx : z_FX g (d + 7) mL_row p (headSpec wL_row (z_rm (d + 7) 1 6)).room s m0 ([Value.ref 1, .int l1, .int l2, .ref 841].map (z_tr g)).toArray meth c := ⟨⟨B.exec, B.bytes, hml, findClass_of_methodNamed B.named, hts2⟩, kk, Nat.le_refl _, Nat.le_refl _, (name_of_methodNamed B.named B.method).1⟩
  have htab := vx_table (x := yL_row) (y := yL_row) B (show (Cond.codeWith yL_row cL_row 5 (some .int) [(0, 10, 13, 13)]).before _ s = true from hts _ List.mem_cons_self)
  have hmc : 1 ≤ (headSpec wL_row (z_rm (d + 7) 1 6)).room.cells := Nat.le_refl _
  have hms : 6 ≤ (headSpec wL_row (z_rm (d + 7) 1 6)).room.slots := Nat.le_refl _
  have RT : z_RET g false mL_row p e (headSpec wL_row (z_rm (d + 7) 1 6)).room s m0 ([Value.ref 1, .int l1, .int l2, .ref 841].map (z_tr g)).toArray below meth c 1 6 (MQ below (fun (_ : Array Value) (_ : State) (o : Outcome) (t : State) => ∃ (r : Option Value) (h2 : zH), o = .returned (r.map (z_tr g)) ∧ Q r h2 ∧ z_Rel g false h2 t.heap) ([Value.ref 1, .int l1, .int l2, .ref 841].map (z_tr g)).toArray s 1 6 (fun q => g_B g ≤ q)) Q := l_RET (M := mL_row) (QX := fun _ => True) (XC := fun _ _ _ => True) B
  have key : WPl g false mL_row p e (headSpec wL_row (z_rm (d + 7) 1 6)).room s m0 ([Value.ref 1, .int l1, .int l2, .ref 841].map (z_tr g)).toArray below meth c 1 6 (MQ below (fun (_ : Array Value) (_ : State) (o : Outcome) (t : State) => ∃ (r : Option Value) (h2 : zH), o = .returned (r.map (z_tr g)) ∧ Q r h2 ∧ z_Rel g false h2 t.heap) ([Value.ref 1, .int l1, .int l2, .ref 841].map (z_tr g)).toArray s 1 6 (fun q => g_B g ≤ q)) 1 6 0 [.ref 1, .int l1, .int l2, .ref 841, .retAddr 0] [] (mk m) := by
    refine l_aload_n fx hmc hms 3 dL_row_0 rfl rfl (l_iconst fx hmc hms 0 dL_row_1 rfl (l_aload_n fx hmc hms 0 dL_row_2 rfl rfl (l_iload_n fx hmc hms 1 dL_row_3 rfl rfl (l_iload_n fx hmc hms 2 dL_row_4 rfl rfl ?_))))
    intro H1 locs cells slots real1 rel1 lo1 lv1 hc hs
    -- the call
    obtain ⟨QR, eQR⟩ : ∃ QR : Option Value → zH → Prop, QR = fun r h2 => ∃ v : Int32, r = some (.int v) ∧ h2 = mk m ∧ Q (some (.int 0)) (mk (wL m 841 0 v.toInt64)) := ⟨_, rfl⟩
    obtain ⟨QX, eQX⟩ : ∃ QX : zH → Prop, QX = fun h2 => h2 = mk m ∧ Q (some (.int 1)) (mk m) := ⟨_, rfl⟩
    have okr : OkX g (d + 6) mX9_row 1 6 [.ref 1, .int l1, .int l2] (mk m) QR QX := by
      refine k_row hst (by omega) ⟨fun z => ?_, fun z => ⟨fun y => ?_, fun y => ⟨((H.2 z).2 y).1, fun x => ⟨(((H.2 z).2 y).2.1 x).1, ?_⟩, fun x => ?_⟩⟩⟩
      · rw [eQX]; exact ⟨rfl, H.1 z⟩
      · rw [eQX]; exact ⟨rfl, (H.2 z).1 y⟩
      · rw [eQR]; exact ⟨_, rfl, rfl, (((H.2 z).2 y).2.1 x).2⟩
      · rw [eQX]; exact ⟨rfl, ((H.2 z).2 y).2.2 x⟩
    have cb := callB_of (R := (headSpec wL_row (z_rm (d + 7) 1 6)).room) (own := mL_row.1.cls) (index := 7) (rm := z_rm (d + 6) 1 6) (mc := 1) (ms := 6) 2 hts2 (z_WG md_X9_row) rfl rfl rfl (hts2 _ md_X9_row.2.1) (hts2 _ lk_L_7.1) ⟨md_X9_row.2.2.1, md_X9_row.2.2.2.1, md_X9_row.2.2.2.2.1⟩ (z_room (M2 := mX9_row) fx.2.2.1 fx.2.2.2.1 md_X9_row.2.2.2.2.2)
    have hr := vx_runV (cells := cells) (slots := slots) (locs := locs) (H := H1) (meth := meth) (below := below) (e := e) (C := "GraphNames") (b := z_rho g 1) (As := [Value.int l1, .int l2]) (rest := [.int 0, z_tr g (.ref 841)]) (g := F0 m0 5 real1 [.int l2, .int l1, .ref (z_rho g 1), .int 0, z_tr g (.ref 841)]) fx.1 okr ⟨cb, hts2 _ lk_L_7.2.1, hts2 _ lk_L_7.2.2⟩ ⟨z_blind, z_recv rel1 fx.2.1 (zA a_1) (ci := 8) (by decide) rfl, fun U hU hW => ⟨rfl, fx.2.1.moved hW, by rw [hU]; exact rel1⟩⟩ rfl rfl lv1.1 rfl (Nat.le_of_ble_eq_true rfl) dL_row_5 ⟨by show cells + 1 ≤ 1; omega, by show slots + 6 ≤ 6; omega⟩
    intro T hT X
    rcases hr T hT X with ⟨v, st₀, t, T', L, h0, X', hL, e1, e2, ⟨r, h2, hv, hq, hrel⟩, stp⟩ | ⟨q, st₀, t, T', L, E, ce, h0, X', hL, e1, e2, ⟨rfl, h2, hq, hrel⟩, hce, hcv, hcl, stp⟩
    · rw [eQR] at hq
      obtain ⟨v1, rfl, rfl, hQ⟩ := hq
      cases hv
      have k := l_of fx hmc hms RT (C := 0) (S := 0) (pc := 8) (ls := [.ref 1, .int l1, .int l2, .ref 841, .retAddr 0]) (st := [.int v1, .int 0, .ref 841]) (h := mk m) (r_i2l dL_row_8 (q_lastore 0 dL_row_9 a_841 (pk_in 0 1 (by decide)) rfl (r_goto 17 dL_row_10 rfl (r_iconst 0 dL_row_17 rfl (r_iret dL_row_18 rfl hQ)))))
      obtain ⟨t2, a1, b1⟩ := k T'.heap (locs ++ L) (cells + 1) (slots + 6) real1 (by rw [e1]; exact hrel) (fun q hq => by
        rcases List.mem_append.mp hq with h | h
        · exact lo1 q h
        · exact hL q h) lv1 (by omega) (by omega) T' rfl X'
      exact ⟨t2, stp t2 a1, b1⟩
    · rw [eQX] at hq
      obtain ⟨rfl, hQ⟩ := hq
      have kk2 : W p (g_l g) e (headSpec wL_row (z_rm (d + 7) 1 6)).room s m0 ([Value.ref 1, .int l1, .int l2, .ref 841].map (z_tr g)).toArray below meth c T'.heap (locs ++ L) (cells + 1) (slots + 6) (MQ below (fun (_ : Array Value) (_ : State) (o : Outcome) (t : State) => ∃ (r : Option Value) (h2 : zH), o = .returned (r.map (z_tr g)) ∧ Q r h2 ∧ z_Rel g false h2 t.heap) ([Value.ref 1, .int l1, .int l2, .ref 841].map (z_tr g)).toArray s 1 6 (fun q => g_B g ≤ q)) (F0 m0 13 real1 [.ref q]) := by
        refine lv_astore fx.1.1 fx.1.2.1 dL_row_13 lv1 (by decide) rfl (fun ls1 lv2 => ?_)
        have k := l_of fx hmc hms RT (C := 0) (S := 0) (pc := 15) (ls := [.ref 1, .int l1, .int l2, .ref 841, .retAddr 0]) (st := []) (h := mk m) (r_iconst 1 dL_row_15 rfl (r_iret dL_row_16 rfl hQ))
        refine k T'.heap (locs ++ L) (cells + 1) (slots + 6) ls1 (by rw [e1]; exact hrel) (fun q hq => by
          rcases List.mem_append.mp hq with h | h
          · exact lo1 q h
          · exact hL q h) (z_mono lv2 (fun x hx => List.mem_cons_of_mem _ hx)) (by omega) (by omega)
      have hx := vx_catch (own := mL_row.1.cls) (name := z_NS) (E := z_NS) (ce := ce) (q := q) (pc := 5) (rest := [.int 0, z_tr g (.ref 841)]) fx.1.2.2.2.1 [] ⟨0, 10, 13, 13⟩ [] (by rw [htab]; rfl) (fun z hz => by cases hz) (by decide) (by decide) (hts2 _ (lw_good_at (i := 1112) (by decide +kernel) rfl)) (by have := kk.2.2.2.1 _ z_cast; exact va_tabs rfl (rfl : s.vm = s.vm) this) (by rw [e1]; exact hce) hcv hcl kk2
      obtain ⟨t2, a1, b1⟩ := hx T' rfl X'
      exact ⟨t2, stp.trans a1, b1⟩
  exact key s.heap [] 0 0 real rel (fun q hq => by cases hq) lv (by omega) (by omega)
/-- the law calls it -/
theorem r_callR {M : zM} {C S pc : Nat} {ls st0 : List Value} {h : zH} {Q : Option Value → zH → Prop} {ix C1 S1 : Nat} (As : List Value) (st : List Value) (hd : decode M.2.1 pc = .ok (.invokestatic ix, 3)) (hlk : Cond.methodLink M.1.cls ix yL_row ∈ lw_good) (hn : As.length = 4) (hst : st0 = As.reverse ++ st) (hcat : (st.map fun v => v.category).sum ≤ 8) {C2 S2 : Nat} (hC : C = C1 + C2) (hS : S = S1 + S2)
    (ok : OkR g d C1 S1 As h (fun r h2 => WP g false (d + 1) M C2 S2 (pc + 3) ls (r.toList ++ st) h2 Q)) : WP g false (d + 1) M C S pc ls st0 h Q := by
  intro p e R s m args below meth c mc ms QQ fx ret hmc hms H locs cells slots real rel lo lv hc hs
  subst hst
  have hts := fx.1.2.2.2.2
  have hro := z_room (M2 := mL_row) (C1 := C1) (S1 := S1) fx.2.2.1 fx.2.2.2.1 (by decide)
  have hstk : (As.reverse ++ st).map (z_tr g) = (As.map (z_tr g)).reverse ++ st.map (z_tr g) := by rw [List.map_append, List.map_reverse]
  have hG : GoodIn lw_good (va_wsS M.1.cls ix yL_row wL_row) := by
    intro w hw
    have h9 : w ∈ lw_good := by
      simp only [va_wsS, wL_row, List.cons_append, List.nil_append, List.mem_cons] at hw
      rcases hw with rfl | rfl | rfl | rfl | hw
      · exact hlk
      · exact lw_good_at (i := 1110) (by decide +kernel) rfl
      · exact lw_good_at (i := 112) (by decide +kernel) rfl
      · exact lw_lrow
      · exact hw
    exact lw_good_g w h9
  have cb := vx_cwSW (R := R) (own := M.1.cls) (index := ix) (y := yL_row) (bytes := cL_row) (maxL := 5) (ret := some .int) (hh := [(0, 10, 13, 13)]) (ws := wL_row) (ws' := lw_good) (rm := z_rm d C1 S1) (mc := C1) (ms := S1) 4 hts hG rfl rfl rfl ⟨by decide, by decide, by decide +kernel⟩ hro
  have hrun : va_Run p (g_l g) e R s m args below meth c H locs cells slots C1 S1 (F0 m pc real ((As.reverse ++ st).map (z_tr g))) (st.map (z_tr g)) (fun (_ : State) (o : Outcome) (t : State) => ∃ (r : Option Value) (h2 : zH), o = .returned (r.map (z_tr g)) ∧ WP g false (d + 1) M C2 S2 (pc + 3) ls (r.toList ++ st) h2 Q ∧ z_Rel g false h2 t.heap) (fun q => g_B g ≤ q) :=
    vx_runSW (As := As.map (z_tr g)) (rest := st.map (z_tr g)) fx.1 ok cb ⟨z_blind, fun U hU hW => ⟨rfl, fx.2.1.moved hW, by rw [hU]; exact rel⟩⟩ rfl (by rw [List.length_map]; exact hn) lv.1 hstk (by rw [z_catsum]; exact (Nat.zero_add _).symm ▸ hcat) hd ⟨by omega, by omega⟩
  refine z_run hrun lo (fun r h2 H1 locs1 hq rel1 lo1 => ?_)
  have := hq p e R s m args below meth c mc ms QQ fx ret hmc hms H1 locs1 (cells + C1) (slots + S1) real rel1 lo1 lv (by omega) (by omega)
  rw [List.map_append] at this
  exact this
end ZLr
