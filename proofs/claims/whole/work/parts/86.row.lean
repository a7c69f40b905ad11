/-! row: the class's may throw; the law's own catches -/
def z_NS : String := "java/util/NoSuchElementException"
def z_NSs : List String := ["java/lang/RuntimeException", "java/lang/Exception"]
theorem nx_good : ∀ w ∈ (vx_at0 "GraphNames" 319 z_NS z_NSs).filter goodWord, w ∈ lw_tbl := by decide +kernel
theorem nx_rest0 : ((vx_at0 "GraphNames" 319 z_NS z_NSs).filter (fun w => !goodWord w)).all (fun w => decide (w ∈ lw_tbl) && z_nest w) = true := by decide +kernel
theorem nx_rest : ∀ w ∈ (vx_at0 "GraphNames" 319 z_NS z_NSs).filter (fun w => !goodWord w), w ∈ lw_tbl ∧ z_nest w = true := fun w hw => by
  have := List.all_eq_true.mp nx_rest0 w hw
  simpa using this
theorem nx_ot : ∀ w ∈ Cond.classLink "GraphNames" 317 z_NS :: Cond.initialized z_NS :: vx_at0 "GraphNames" 319 z_NS z_NSs, vx_ot w = true := by decide +kernel
section ZRw
variable {g : zG} {gr : Bool} {d : Nat} {M M2 : zM} {C S pc : Nat} {ls st st0 : List Value} {h : zH}
theorem l_entry {av : List Value} {nL : Nat} (m : MethodId) (hcat : av.all (fun v => v.category == 1) = true) (hlen : av.length ≤ nL) (hls : ls = av ++ List.replicate (nL - av.length) (.retAddr 0)) : ∃ real, entryFrame m (av.map (z_tr g)).toArray nL = F0 m 0 real [] ∧ lv_has real nL (z_asc g ls 0) := by
  have hcat1 : ∀ v ∈ av, v.category = 1 := fun v hv => by simpa using List.all_eq_true.mp hcat v hv
  have hcat2 : ∀ v ∈ av.map (z_tr g), v.category = 1 := fun v hv => by
    obtain ⟨w, hw, rfl⟩ := List.mem_map.mp hv
    rw [z_tr_cat]; exact hcat1 w hw
  have hl0 : (lg_sl (av.map (z_tr g))).length ≤ nL := by
    have : ∀ l : List Value, (∀ v ∈ l, v.category = 1) → (lg_sl l).length = l.length := by
      intro l
      induction l with
      | nil => intro _; rfl
      | cons x xs ih =>
        intro hx
        have e1 := hx x List.mem_cons_self
        have e2 := ih (fun v hv => hx v (List.mem_cons_of_mem _ hv))
        unfold lg_sl at e2 ⊢
        rw [List.flatMap_cons, if_neg (by omega)]
        simp [e2]
    rw [this _ hcat2, List.length_map]; exact hlen
  have hl := lv_entry (av.map (z_tr g)) (n := nL) hl0
  rw [lg_entry_eq]
  refine ⟨_, rfl, z_mono hl ?_⟩
  rintro ⟨q1, q2⟩ hq
  obtain ⟨j, w, h1, h2, h3, h4⟩ := (z_asc_mem g _ 0 _ _).mp hq
  rw [Nat.zero_add] at h1
  subst h1; subst h4; subst hls
  have hj : q1 < av.length := by
    rcases Nat.lt_or_ge q1 av.length with q | q
    · exact q
    · rw [List.getElem?_append_right q, List.getElem?_replicate] at h2
      split at h2
      · cases h2; cases h3
      · cases h2
  rw [List.getElem?_append_left hj] at h2
  have := z_args_mem (av.map (z_tr g)) 0 q1 (z_tr g w) hcat2 (by rw [List.getElem?_map, h2]; rfl)
  rw [Nat.zero_add] at this
  exact this
/-- a method that returns or throws the one exception -/
def OkX (g : zG) (d : Nat) (M : zM) (C S : Nat) (av : List Value) (h : zH) (Q : Option Value → zH → Prop) (QX : zH → Prop) : Prop :=
  vx_Met (g_l g) M.1 (z_W M) (z_rm d C S) (va_Pc (av.map (z_tr g)) (fun U => z_KK g U ∧ z_Rel g false h U.heap)) (fun _ _ o t => ∃ (r : Option Value) (h2 : zH), o = .returned (r.map (z_tr g)) ∧ Q r h2 ∧ z_Rel g false h2 t.heap) (fun E _ t => E = z_NS ∧ ∃ h2, QX h2 ∧ z_Rel g false h2 t.heap) C S (fun q => g_B g ≤ q)
theorem z_relGrow {h : zH} {H H1 : Heap} (rel : z_Rel g false h H) (h1 : H.size ≤ H1.size) (h2 : ∀ q : Nat, q < H.size → H1[q]? = H[q]?) : z_Rel g false h H1 := by
  obtain ⟨r1, r2, r3, r4⟩ := id rel
  have r2' : g_B g + z_z h ≤ H.size + 1 := by simpa using r2
  refine ⟨fun q hq => by rw [h2 q (by omega)]; exact r1 q hq, ?_, r3, fun a a0 a1 => ?_⟩
  · show (if false = true then _ else g_B g + z_z h ≤ H1.size + 1)
    rw [if_neg (by decide)]; omega
  · have er := z_rho_in rel a0 a1
    exact z_cell_kept (r4 a a0 a1) rfl (fun _ => rfl) (h2 _ (by omega))
theorem l_RET {QX : zH → Prop} {Q : Option Value → zH → Prop} {XC : String → State → State → Prop} {p : Program} {e : Env} {s s₁ : State} {m0 : MethodId} {args : Array Value} {below : List Frame} {meth : Method} {c : Code} {R : Room} {ws : List Cond} {rm : Room} (B : BodyLoose p (g_l g) M.1 (headSpec ws rm) M.2.1 M.2.2.1 M.2.2.2 e s m0 args below meth c s₁) : z_RET g gr M p e R s m0 args below meth c C S (MQ below (fun (_ : Array Value) (_ : State) (o : Outcome) (t : State) => ∃ (r : Option Value) (h2 : zH), o = .returned (r.map (z_tr g)) ∧ Q r h2 ∧ z_Rel g gr h2 t.heap) args s C S (fun q => g_B g ≤ q)) Q := by
  intro H locs cells slots real pc r h' hc hs rel lo hq hv
  have hb := B.bytes
  have hr := B.returns
  have hlocks := B.notSynchronized
  refine W.widen hc hs ?_
  match r, hv, hq with
  | none, hv, hq => exact W.vret B.exec hb (hr.trans hv.1) (fun t ht _ => ⟨none, h', rfl, hq, by rw [ht]; exact rel⟩) lo hv.2
  | some (.int v), ⟨ty, hv1, hv2, hv3⟩, hq => exact W.zret B.exec hb (hr.trans hv1) hv2 (fun t ht _ => ⟨some (.int v), h', rfl, hq, by rw [ht]; exact rel⟩) lo hv3
  | some (.long v), hv, hq => exact W.lret B.exec hb (hr.trans hv.1) (fun t ht _ => ⟨some (.long v), h', rfl, hq, by rw [ht]; exact rel⟩) lo hv.2
  | some (.ref a), ⟨⟨n, hv1⟩, hv2⟩, hq => exact W.aret B.exec hb (hr.trans hv1) (Or.inl ⟨n, rfl⟩) (Or.inr ⟨_, rfl⟩) (fun t ht _ => ⟨some (.ref a), h', rfl, hq, by rw [ht]; exact rel⟩) lo hv2
  | some .null, ⟨⟨n, hv1⟩, hv2⟩, hq => exact W.aret B.exec hb (hr.trans hv1) (Or.inl ⟨n, rfl⟩) (Or.inl rfl) (fun t ht _ => ⟨some .null, h', rfl, hq, by rw [ht]; exact rel⟩) lo hv2
theorem l_RETx {QX : zH → Prop} {Q : Option Value → zH → Prop} {XC : String → State → State → Prop} {p : Program} {e : Env} {s s₁ : State} {m0 : MethodId} {args : Array Value} {below : List Frame} {meth : Method} {c : Code} {R : Room} {ws : List Cond} {rm : Room} (B : BodyLoose p (g_l g) M.1 (headSpec ws rm) M.2.1 M.2.2.1 M.2.2.2 e s m0 args below meth c s₁) : z_RET g gr M p e R s m0 args below meth c C S (vx_MQ below (fun (_ : Array Value) (_ : State) (o : Outcome) (t : State) => ∃ (r : Option Value) (h2 : zH), o = .returned (r.map (z_tr g)) ∧ Q r h2 ∧ z_Rel g gr h2 t.heap) XC args s C S (fun q => g_B g ≤ q)) Q := by
  intro H locs cells slots real pc r h' hc hs rel lo hq hv
  exact vx_ret (l_RET (QX := QX) (XC := XC) (R := R) B H locs cells slots real pc r h' hc hs rel lo hq hv)
theorem k_row {m : zm} {l1 l2 : Int32} {Q : Option Value → zH → Prop} {QX : zH → Prop} (hst : (g_l g).stackTraces = false) (hd : 6 ≤ d) (H : (l1 < 0 → QX (mk m)) ∧ (¬ l1 < 0 → (((3 : Int32) ≤ l1 → QX (mk m)) ∧ (¬ (3 : Int32) ≤ l1 → (vp_in l1 3 ∧ ((tX1_has m (272 + 140 * l1.toNatClampNeg) l2 → (vp_in l2 7 ∧ Q (some (.int (m.1 (272 + 140 * l1.toNatClampNeg + 11) l2.toNatClampNeg))) (mk m))) ∧ (¬ tX1_has m (272 + 140 * l1.toNatClampNeg) l2 → QX (mk m)))))))) : OkX g d mX9_row 1 6 [.ref 1, .int l1, .int l2] (mk m) Q QX := by
  obtain ⟨d, rfl⟩ := dn hd
  refine vx_ofW (cc := mX9_row.2.1) (maxL := mX9_row.2.2.1) (ret := mX9_row.2.2.2) (by decide) rfl ?_
  intro p e s m0 args below meth c s₁ B hml hout hv
  obtain ⟨rfl, kk, rel⟩ := hv
  obtain ⟨real, ef, lv⟩ := l_entry (g := g) (av := [.ref 1, .int l1, .int l2]) (nL := mX9_row.2.2.1) (ls := [.ref 1, .int l1, .int l2, .retAddr 0]) m0 rfl (Nat.le_of_ble_eq_true rfl) rfl
  rw [ef]
  have hts := atoms_spec (ws := z_W mX9_row) B.pre
  have hts2 : ∀ w ∈ lw_good, w.before ([Value.ref 1, .int l1, .int l2].map (z_tr g)).toArray s = true := fun w hw => hts w (List.mem_cons_of_mem _ hw)
  have fx : z_FX g (d + 6) mX9_row p (headSpec (z_W mX9_row) (z_rm (d + 6) 1 6)).room s m0 ([Value.ref 1, .int l1, .int l2].map (z_tr g)).toArray meth c := ⟨⟨B.exec, B.bytes, hml, findClass_of_methodNamed B.named, hts2⟩, kk, Nat.le_refl _, Nat.le_refl _, (name_of_methodNamed B.named B.method).1⟩
  obtain ⟨XC, eXC⟩ : ∃ XC : String → State → State → Prop, XC = fun E _ t => E = z_NS ∧ ∃ h2, QX h2 ∧ z_Rel g false h2 t.heap := ⟨_, rfl⟩
  have TH : QX (mk m) → ∀ ls', WPl g false mX9_row p e (headSpec (z_W mX9_row) (z_rm (d + 6) 1 6)).room s m0 ([Value.ref 1, .int l1, .int l2].map (z_tr g)).toArray below meth c 1 6 (vx_MQ below (fun (_ : Array Value) (_ : State) (o : Outcome) (t : State) => ∃ (r : Option Value) (h2 : zH), o = .returned (r.map (z_tr g)) ∧ Q r h2 ∧ z_Rel g false h2 t.heap) XC ([Value.ref 1, .int l1, .int l2].map (z_tr g)).toArray s 1 6 (fun q => g_B g ≤ q)) 1 6 18 ls' [] (mk m) := by
    intro hQX ls' H locs cells slots real rel1 lo lv hc hs T hT X
    have hfr := vx_frame X.same
    have hS : va_S (z_A g) s.heap H locs := ⟨by rw [← hT]; exact hfr.1, fun q hq hA => by rw [← hT]; exact hfr.2 q hq (fun z hz e => hA (by show g_B g ≤ q; rw [← e]; exact lo z hz)), lo⟩
    obtain ⟨H0, a1, a2, a3, a4, a5, a6, a7, a8⟩ := kk.tx
    have hq : ∀ a : Nat, a < H0.size → ¬ z_A g a → s.heap[a]? = H0[a]? := fun a ha _ => by
      rw [a1] at ha
      rw [rel.1 a ha, a2 a ha]
    refine vx_throw0 (A := z_A g) (own := "GraphNames") (cls := z_NS) (names := z_NSs) (ik := 317) (ic := 319) (XC := XC) (pc := 18) (rest := []) (ls := real) fx.1.1 fx.1.2.1 hst fx.1.2.2.2.1 (by decide +kernel) (by decide +kernel) (hts2 _ (lw_good_at (i := 1117) (by decide +kernel) rfl)) (hts2 _ (lw_good_at (i := 134) (by decide +kernel) rfl)) ?_ nx_ot (a7.kept hq) (a8.kept hq) hS (lv.1.trans hml.symm) dX9_row_18 dX9_row_21 dX9_row_22 dX9_row_25 (fun x hx => (hout x hx).elim) ?_ ?_ ?_ ?_ B.notSynchronized ?_ lo (by omega) (by omega) T hT X
    · refine vx_hat (B := (vx_at0 "GraphNames" 319 z_NS z_NSs).filter (fun w => !goodWord w)) (fun w hw => hts2 w (lw_good_of (nx_good w hw) (List.mem_filter.mp hw).2)) (fun w hw => hw) (fun w hw => vx_ot_at (State.WarmedH.refl s) rfl (nx_ot w (List.mem_cons_of_mem _ (List.mem_cons_of_mem _ (List.mem_filter.mp hw).1))) (kk.2.2.2.1 w (List.mem_filter.mpr (nx_rest w hw))))
    · show (2 : Nat) + 3 < d + 6; omega
    · show (0 : Nat) + (13 * (2 + 1) + 42) ≤ 40 * (d + 6); omega
    · show cells + 1 ≤ 1; omega
    · show slots + 6 ≤ 6; omega
    · intro t _ h1 h2
      rw [eXC]
      exact ⟨rfl, mk m, hQX, z_relGrow rel1 h1 h2⟩
  rw [← eXC]
  have hmc : 1 ≤ (headSpec (z_W mX9_row) (z_rm (d + 6) 1 6)).room.cells := Nat.le_refl _
  have hms : 6 ≤ (headSpec (z_W mX9_row) (z_rm (d + 6) 1 6)).room.slots := Nat.le_refl _
  have key : WPl g false mX9_row p e (headSpec (z_W mX9_row) (z_rm (d + 6) 1 6)).room s m0 ([Value.ref 1, .int l1, .int l2].map (z_tr g)).toArray below meth c 1 6 (vx_MQ below (fun (_ : Array Value) (_ : State) (o : Outcome) (t : State) => ∃ (r : Option Value) (h2 : zH), o = .returned (r.map (z_tr g)) ∧ Q r h2 ∧ z_Rel g false h2 t.heap) XC ([Value.ref 1, .int l1, .int l2].map (z_tr g)).toArray s 1 6 (fun q => g_B g ≤ q)) 1 6 0 [.ref 1, .int l1, .int l2, .retAddr 0] [] (mk m) := by
    refine l_aload_n fx hmc hms 0 dX9_row_0 rfl rfl (l_iload_n fx hmc hms 1 dX9_row_1 rfl rfl (l_callV fx hmc hms (C1 := 0) (S1 := 0) (C2 := 1) (S2 := 6) [.int l1] [] 1 dX9_row_2 lk_X9_94 md_X9_at (ci := 8) rfl rfl (by decide) (zA a_1) rfl rfl (Nat.le_of_ble_eq_true rfl) rfl rfl (b_X9_at_0 (d := d + 5) ?_)))
    have nul : QX (mk m) → WPl g false mX9_row p e (headSpec (z_W mX9_row) (z_rm (d + 6) 1 6)).room s m0 ([Value.ref 1, .int l1, .int l2].map (z_tr g)).toArray below meth c 1 6 (vx_MQ below (fun (_ : Array Value) (_ : State) (o : Outcome) (t : State) => ∃ (r : Option Value) (h2 : zH), o = .returned (r.map (z_tr g)) ∧ Q r h2 ∧ z_Rel g false h2 t.heap) XC ([Value.ref 1, .int l1, .int l2].map (z_tr g)).toArray s 1 6 (fun q => g_B g ≤ q)) 1 6 5 [.ref 1, .int l1, .int l2, .retAddr 0] [.null] (mk m) := fun q =>
      l_astoreN_n fx hmc hms 3 dX9_row_5 rfl (Nat.le_of_ble_eq_true rfl) rfl (l_aloadN_n fx hmc hms 3 dX9_row_6 rfl rfl (l_ifnullN fx hmc hms 18 dX9_row_7 rfl (TH q _)))
    refine ⟨fun q => nul (H.1 q), fun q => ⟨fun q2 => nul ((H.2 q).1 q2), fun q2 => ?_⟩⟩
    obtain ⟨hin, hg1, hb1⟩ := (H.2 q).2 q2
    refine ⟨hin, ?_⟩
    have ho : sX1 (272 + 140 * l1.toNatClampNeg) := (e_2 l1.toNatClampNeg (z_inlt hin)).2
    show WPl g false mX9_row _ _ _ _ _ _ _ _ _ _ _ _ _ _ _ _ [.ref (272 + 140 * l1.toNatClampNeg)] _
    refine l_astore_n fx hmc hms 3 dX9_row_5 rfl (Nat.le_of_ble_eq_true rfl) rfl (l_aload_n fx hmc hms 3 dX9_row_6 rfl rfl (l_ifnullR fx hmc hms dX9_row_7 (l_aload_n fx hmc hms 3 dX9_row_10 rfl rfl (l_iload_n fx hmc hms 2 dX9_row_11 rfl rfl (l_callV fx hmc hms (C1 := 0) (S1 := 0) (C2 := 1) (S2 := 6) [.int l2] [] 1 dX9_row_12 lk_X9_139 md_X1_has (ci := 1) rfl rfl (by decide) (zA (sX1_a ho)) rfl rfl (Nat.le_of_ble_eq_true rfl) rfl rfl (b_X1_has_0 (d := d + 5) ho ?_))))))
    have no : ¬ tX1_has m (272 + 140 * l1.toNatClampNeg) l2 → WPl g false mX9_row p e (headSpec (z_W mX9_row) (z_rm (d + 6) 1 6)).room s m0 ([Value.ref 1, .int l1, .int l2].map (z_tr g)).toArray below meth c 1 6 (vx_MQ below (fun (_ : Array Value) (_ : State) (o : Outcome) (t : State) => ∃ (r : Option Value) (h2 : zH), o = .returned (r.map (z_tr g)) ∧ Q r h2 ∧ z_Rel g false h2 t.heap) XC ([Value.ref 1, .int l1, .int l2].map (z_tr g)).toArray s 1 6 (fun q => g_B g ≤ q)) 1 6 15 [.ref 1, .int l1, .int l2, .ref (272 + 140 * l1.toNatClampNeg)] [.int 0] (mk m) := fun q =>
      l_if_ne fx hmc hms 26 dX9_row_15 rfl (fun z => absurd rfl z) (fun _ => TH (hb1 q) _)
    refine ⟨fun z => no (fun y => y.1 z), fun z => ⟨fun z2 => no (fun y => y.2 z2), fun z2 => ?_⟩⟩
    obtain ⟨hin2, hQ⟩ := hg1 ⟨z, z2⟩
    refine l_if_ne fx hmc hms 26 dX9_row_15 rfl (fun _ => ?_) (fun z => absurd z (by decide))
    refine l_of fx hmc hms (l_RETx (QX := QX) (XC := XC) B) ?_
    exact r_aload_n 3 dX9_row_26 rfl rfl (q_getR dX9_row_27 fl_X9_151_X1 (sX1_a ho) (sX1_r3 ho) (r_iconst (0) dX9_row_30 rfl (q_aaload 0 dX9_row_31 (sX1_s3 ho) (by decide) (z_lit rfl) rfl (sX1_e3 ho 0 (by decide)).1 (r_iload_n 2 dX9_row_32 rfl rfl (q_iaload (l2.toNatClampNeg) dX9_row_33 (sX1_e3 ho 0 (by decide)).2 hin2 rfl (r_iret dX9_row_34 rfl hQ))))))
  exact key s.heap [] 0 0 real rel (fun q hq => by cases hq) lv (by omega) (by omega)
end ZRw
