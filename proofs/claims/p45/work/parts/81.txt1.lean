/-! texts: constants, their length and chars -/
section ZTx
variable {g : zG} {gr : Bool} {d : Nat} {M M2 : zM} {C S pc : Nat} {ls st st0 : List Value} {h : zH} {Q : Option Value → zH → Prop}
theorem z_KK.tx {g : zG} {s : State} (h : z_KK g s) : z_TX g s := by
  obtain ⟨-, -, -, -, scr, -, -, -, -, -, -, t⟩ := h
  exact t
theorem z_rho_top (g : zG) (j : Nat) : z_rho g (z_top + j) = g_s g j := by
  have hz : z_top = 1000000 := rfl
  unfold z_rho
  rw [if_neg (by omega), if_neg (by omega), if_neg (by omega), if_neg (by omega), Nat.add_sub_cancel_left]
theorem z_kn_lo {g : zG} {z q : Nat} (h : q + 1 < g_B g) : z_kn g z q := by
  unfold z_kn
  split
  · omega
  · exact Or.inl h
theorem z_trT (g : zG) (j : Nat) : z_tr g (.ref (z_top + j)) = .ref (g_s g j) := congrArg Value.ref (z_rho_top g j)
theorem z_txAt {s : State} {H : Heap} (t : z_TX g s) (rel : z_Rel g gr h H) : vk_S 11 z_len z_byt (g_s g) (fun i => g_s g (11 + i)) (z_A g) s H ∧ va_Z "java/lang/String" "COMPACT_STRINGS" "Z" (.int 1) (z_A g) s H ∧ ∃ v : Value, (v = .null ∨ v = .ref (g_s g 22)) ∧ va_Z "jdk/internal/util/Preconditions" "SIOOBE_FORMATTER" "Ljava/util/function/BiFunction;" v (z_A g) s H := by
  obtain ⟨H0, a1, a2, a3, a4, a5, ⟨v, hv, a6⟩, -⟩ := t
  have hq : ∀ a : Nat, a < H0.size → ¬ z_A g a → H[a]? = H0[a]? := fun a ha _ => by
    have ha2 : a + 1 < g_B g := by omega
    rw [rel.1 a (z_kn_lo ha2), a2 a ha2]
  exact ⟨a3.kept hq, a5.kept hq, v, hv, a6.kept hq⟩
theorem z_doAt {s : State} {H : Heap} (t : z_TX g s) (rel : z_Rel g gr h H) : va_Z "java/lang/Integer" "DigitOnes" "[B" (.ref (g_s g 23)) (z_A g) s H ∧ va_T .byte (g_s g 23) 100 (fun j => .int (Int32.ofNat (48 + j % 10))) (z_A g) s H := by
  obtain ⟨H0, a1, a2, -, -, -, -, a7, a8⟩ := t
  have hq : ∀ a : Nat, a < H0.size → ¬ z_A g a → H[a]? = H0[a]? := fun a ha _ => by
    have ha2 : a + 1 < g_B g := by omega
    rw [rel.1 a (z_kn_lo ha2), a2 a ha2]
  exact ⟨a7.kept hq, a8.kept hq⟩
theorem r_ldcS {i : Nat} (hi : i < 11) (hcl : M.1.cls = z_to i) (hd : decode M.2.1 pc = .ok (.ldc (z_ti i), 2)) (k : WP g gr d M C S (pc + 2) ls (.ref (z_top + i) :: st) h Q) : WP g gr d M C S pc ls st h Q := by
  intro p e R s m args below meth c mc ms QQ fx ret hmc hms H locs cells slots real rel lo lv hc hs
  obtain ⟨H0, a1, a2, a3, a4, -⟩ := fx.2.1.tx
  have := k p e R s m args below meth c mc ms QQ fx ret hmc hms H locs cells slots real rel lo lv hc hs
  rw [List.map_cons, z_trT] at this
  exact va_ldcS fx.1.1 fx.1.2.1 (by rw [← hcl]; exact fx.1.2.2.2.1) (a4 i hi) hd this
theorem r_getTv {ix i : Nat} (hi : i < 11) (hd : decode M.2.1 pc = .ok (.getfield ix, 3)) (hl : Cond.fieldLink M.1.cls ix "java/lang/String" "value" "[B" ∈ lw_good) (k : WP g gr d M C S (pc + 3) ls (.ref (z_top + (11 + i)) :: st) h Q) : WP g gr d M C S pc ls (.ref (z_top + i) :: st) h Q := by
  intro p e R s m args below meth c mc ms QQ fx ret hmc hms H locs cells slots real rel lo lv hc hs
  obtain ⟨⟨b1, -⟩, -, -⟩ := z_txAt fx.2.1.tx rel
  obtain ⟨cf, k', fi, f, cell, h1, h2, h3, h4, h5, h6⟩ := (b1 i hi).2.2.1
  have := k p e R s m args below meth c mc ms QQ fx ret hmc hms H locs cells slots real rel lo lv hc hs
  rw [List.map_cons, z_trT] at this
  rw [List.map_cons, z_trT]
  exact W.getf fx.1.1 fx.1.2.1 fx.1.2.2.2.1 (fx.1.2.2.2.2 _ hl) h1 h2 h3 h4 (v := .ref (g_s g (11 + i))) h5 rfl rfl hd this
theorem r_getTc {ix i : Nat} (hi : i < 11) (hd : decode M.2.1 pc = .ok (.getfield ix, 3)) (hl : Cond.fieldLink M.1.cls ix "java/lang/String" "coder" "B" ∈ lw_good) (k : WP g gr d M C S (pc + 3) ls (.int 0 :: st) h Q) : WP g gr d M C S pc ls (.ref (z_top + i) :: st) h Q := by
  intro p e R s m args below meth c mc ms QQ fx ret hmc hms H locs cells slots real rel lo lv hc hs
  obtain ⟨⟨b1, -⟩, -, -⟩ := z_txAt fx.2.1.tx rel
  obtain ⟨cf, k', fi, f, cell, h1, h2, h3, h4, h5, h6⟩ := (b1 i hi).2.1
  have := k p e R s m args below meth c mc ms QQ fx ret hmc hms H locs cells slots real rel lo lv hc hs
  rw [List.map_cons, z_trT]
  exact W.getf fx.1.1 fx.1.2.1 fx.1.2.2.2.1 (fx.1.2.2.2.2 _ hl) h1 h2 h3 h4 (v := .int 0) h5 rfl rfl hd this
theorem r_alenT {i : Nat} (hi : i < 11) (hd : decode M.2.1 pc = .ok (.arraylength, 1)) (k : WP g gr d M C S (pc + 1) ls (.int (nI (z_len.getD i 0)) :: st) h Q) : WP g gr d M C S pc ls (.ref (z_top + (11 + i)) :: st) h Q := by
  intro p e R s m args below meth c mc ms QQ fx ret hmc hms H locs cells slots real rel lo lv hc hs
  obtain ⟨⟨b1, -⟩, -, -⟩ := z_txAt fx.2.1.tx rel
  obtain ⟨cell, h1, h2, h3, h4, h5, h6, h7⟩ := (b1 i hi).2.2.2
  have := k p e R s m args below meth c mc ms QQ fx ret hmc hms H locs cells slots real rel lo lv hc hs
  rw [List.map_cons, z_trT]
  exact W.alen fx.1.1 fx.1.2.1 h1 h2 h5 rfl rfl hd this
theorem r_baT {i j : Nat} (hi : i < 11) (hj : j < z_len.getD i 0) (hd : decode M.2.1 pc = .ok (.baload, 1)) (k : WP g gr d M C S (pc + 1) ls (.int ((z_byt.getD i []).getD j 0) :: st) h Q) : WP g gr d M C S pc ls (.int (nI j) :: .ref (z_top + (11 + i)) :: st) h Q := by
  intro p e R s m args below meth c mc ms QQ fx ret hmc hms H locs cells slots real rel lo lv hc hs
  obtain ⟨⟨b1, -⟩, -, -⟩ := z_txAt fx.2.1.tx rel
  obtain ⟨cell, h1, h2, h3, h4, h5, h6, h7⟩ := (b1 i hi).2.2.2
  have hj5 : ∀ i, i < 11 → z_len.getD i 0 < 8 := by decide
  have hj6 := hj5 i hi
  have this := k p e R s m args below meth c mc ms QQ fx ret hmc hms H locs cells slots real rel lo lv hc hs
  rw [List.map_cons, List.map_cons, z_trT]
  refine W.bald fx.1.1 fx.1.2.1 h1 h2 h3 (j := nI j) ?_ (v := .int ((z_byt.getD i []).getD j 0)) ?_ rfl rfl hd this
  · rw [nI_clamp (show j < 2 ^ 31 by omega)]
    rintro (q | q)
    · exact i_nn (show j < 2 ^ 31 by omega) q
    · omega
  · rw [nI_clamp (show j < 2 ^ 31 by omega)]
    exact h6 j hj
theorem r_getsC {ix : Nat} (hd : decode M.2.1 pc = .ok (.getstatic ix, 3)) (hl : Cond.fieldLink M.1.cls ix "java/lang/String" "COMPACT_STRINGS" "Z" ∈ lw_good) (k : WP g gr d M C S (pc + 3) ls (.int 1 :: st) h Q) : WP g gr d M C S pc ls st h Q := by
  intro p e R s m args below meth c mc ms QQ fx ret hmc hms H locs cells slots real rel lo lv hc hs
  obtain ⟨-, ⟨cf, kf, fi, f, a, cell, h1, h2, h3, h4, h5, h6, h7, h8⟩, -⟩ := z_txAt fx.2.1.tx rel
  have := k p e R s m args below meth c mc ms QQ fx ret hmc hms H locs cells slots real rel lo lv hc hs
  exact W.gets fx.1.1 fx.1.2.1 fx.1.2.2.2.1 (fx.1.2.2.2.2 _ hl) h1 h2 h3 h4 h5 (fun e => by rw [e] at h6; cases h6) h7 rfl hd this
theorem r_getsF {ix : Nat} (hd : decode M.2.1 pc = .ok (.getstatic ix, 3)) (hl : Cond.fieldLink M.1.cls ix "jdk/internal/util/Preconditions" "SIOOBE_FORMATTER" "Ljava/util/function/BiFunction;" ∈ lw_good) (k : ∀ v, (v = .null ∨ v = .ref (z_top + 22)) → WP g gr d M C S (pc + 3) ls (v :: st) h Q) : WP g gr d M C S pc ls st h Q := by
  intro p e R s m args below meth c mc ms QQ fx ret hmc hms H locs cells slots real rel lo lv hc hs
  obtain ⟨-, -, v, hv, ⟨cf, kf, fi, f, a, cell, h1, h2, h3, h4, h5, h6, h7, h8⟩⟩ := z_txAt fx.2.1.tx rel
  obtain ⟨w, hw, ew⟩ : ∃ w, (w = .null ∨ w = .ref (z_top + 22)) ∧ z_tr g w = v := by
    rcases hv with rfl | rfl
    · exact ⟨.null, Or.inl rfl, rfl⟩
    · exact ⟨_, Or.inr rfl, z_trT g 22⟩
  have := k w hw p e R s m args below meth c mc ms QQ fx ret hmc hms H locs cells slots real rel lo lv hc hs
  rw [List.map_cons, ew] at this
  exact W.gets fx.1.1 fx.1.2.1 fx.1.2.2.2.1 (fx.1.2.2.2.2 _ hl) h1 h2 h3 h4 h5 (fun e => by rw [e] at h6; cases h6) h7 rfl hd this
theorem r_i2c {x v : Int32} (hd : decode M.2.1 pc = .ok (.i2c, 1)) (hv : (x.toUInt32 % 65536).toInt32 = v) (k : WP g gr d M C S (pc + 1) ls (.int v :: st) h Q) : WP g gr d M C S pc ls (.int x :: st) h Q := by
  intro p e R s m args below meth c mc ms QQ fx ret hmc hms H locs cells slots real rel lo lv hc hs
  exact lv_i2c fx.1.1 fx.1.2.1 hd hv (k p e R s m args below meth c mc ms QQ fx ret hmc hms H locs cells slots real rel lo lv hc hs)
/-- a call on a text -/
theorem r_callT {ix i C1 S1 : Nat} (hi : i < 11) (As : List Value) (st : List Value) (n9 : Nat) (hd : decode M.2.1 pc = .ok (.invokevirtual ix, 3)) (lk : z_LV M.1.cls ix "java/lang/String" M2) (md : z_MD M2 n9) (hCn : M2.1.cls = "java/lang/String") (hn : As.length = n9) (hst : st0 = As.reverse ++ .ref (z_top + i) :: st) (hcat : (st.map fun v => v.category).sum ≤ 8) {C2 S2 : Nat} (hC : C = C1 + C2) (hS : S = S1 + S2)
    (ok : Ok g gr d M2 C1 S1 (.ref (z_top + i) :: As) h (fun r h2 => WP g gr (d + 1) M C2 S2 (pc + 3) ls (r.toList ++ st) h2 Q)) : WP g gr (d + 1) M C S pc ls st0 h Q := by
  intro p e R s m args below meth c mc ms QQ fx ret hmc hms H locs cells slots real rel lo lv hc hs
  subst hst
  have hts := fx.1.2.2.2.2
  have cb := callB_of (R := R) (own := M.1.cls) (index := ix) (rm := z_rm d C1 S1) (mc := C1) (ms := S1) n9 hts (z_WG md) rfl rfl rfl (hts _ md.2.1) (hts _ lk.1) ⟨md.2.2.1, md.2.2.2.1, md.2.2.2.2.1⟩ (z_room fx.2.2.1 fx.2.2.2.1 md.2.2.2.2.2)
  have hrc : ∃ cellB : Cell, H[z_rho g (z_top + i)]? = some cellB ∧ cellB.vm.isStatics = false ∧ s.vm.findClass "java/lang/String" = some cellB.cls := by
    obtain ⟨⟨b1, -⟩, -, -⟩ := z_txAt fx.2.1.tx rel
    obtain ⟨cell, h1, h2, h3, -⟩ := (b1 i hi).1
    exact ⟨cell, by rw [z_rho_top]; exact h1, h2, h3⟩
  refine z_run (va_runV (C := "java/lang/String") (b := z_rho g (z_top + i)) (As := As.map (z_tr g)) (rest := st.map (z_tr g)) fx.1 ok ⟨cb, hts _ lk.2.1, hts _ lk.2.2⟩ ⟨z_blind, hrc, fun U hU hW => ⟨rfl, fx.2.1.moved hW, by rw [hU]; exact rel⟩⟩ rfl (by rw [List.length_map]; exact hn) lv.1 ?_ (by rw [z_catsum]; exact (Nat.zero_add _).symm ▸ hcat) hd ⟨by omega, by omega⟩) lo (fun r h2 H1 locs1 hq rel1 lo1 => ?_)
  · show (As.reverse ++ .ref (z_top + i) :: st).map (z_tr g) = _
    rw [List.map_append, List.map_reverse, List.map_cons]; rfl
  · have := hq p e R s m args below meth c mc ms QQ fx ret hmc hms H1 locs1 (cells + C1) (slots + S1) real rel1 lo1 lv (by omega) (by omega)
    rw [List.map_append] at this
    exact this
theorem t_coder {e i : Nat} (hi : i < 11) (H : Q (some (.int 0)) h) : Ok g gr e mJ0_coder_7d493 0 0 [.ref (z_top + i)] h Q :=
  Ok_of (ls := [.ref (z_top + i)]) (by decide) rfl (Nat.le_of_ble_eq_true rfl) rfl (r_getsC dJ0_coder_7d493_0 (lw_good_at (i := 869) (by decide +kernel) rfl) (r_if_eq 13 dJ0_coder_7d493_3 rfl (fun q => absurd q (by decide)) (fun _ => r_aload_n 0 dJ0_coder_7d493_6 rfl rfl (r_getTc hi dJ0_coder_7d493_7 (lw_good_at (i := 1214) (by decide +kernel) rfl) (r_goto 14 dJ0_coder_7d493_10 rfl (r_ret (some (.int 0)) ⟨.byte, rfl, rfl, dJ0_coder_7d493_14⟩ H rfl))))))
theorem t_isLatin1 {e i : Nat} (hi : i < 11) (H : Q (some (.int 1)) h) : Ok g gr e mJ0_isLatin1_aae02 0 0 [.ref (z_top + i)] h Q :=
  Ok_of (ls := [.ref (z_top + i)]) (by decide) rfl (Nat.le_of_ble_eq_true rfl) rfl (r_getsC dJ0_isLatin1_aae02_0 (lw_good_at (i := 869) (by decide +kernel) rfl) (r_if_eq 17 dJ0_isLatin1_aae02_3 rfl (fun q => absurd q (by decide)) (fun _ => r_aload_n 0 dJ0_isLatin1_aae02_6 rfl rfl (r_getTc hi dJ0_isLatin1_aae02_7 (lw_good_at (i := 1214) (by decide +kernel) rfl) (r_if_ne 17 dJ0_isLatin1_aae02_10 rfl (fun q => absurd rfl q) (fun _ => r_iconst 1 dJ0_isLatin1_aae02_13 rfl (r_goto 18 dJ0_isLatin1_aae02_14 rfl (r_ret (some (.int 1)) ⟨.boolean, rfl, rfl, dJ0_isLatin1_aae02_18⟩ H rfl))))))))
theorem t_length {e i : Nat} (he : 1 ≤ e) (hi : i < 11) (H : Q (some (.int (nI (z_len.getD i 0)))) h) : Ok g gr e mJ0_length_8abf5 0 0 [.ref (z_top + i)] h Q := by
  obtain ⟨d, rfl⟩ := dn he
  have sh : ∀ x : Int32, x >>> ((0 : Int32) &&& 31) = x := fun x => by rw [show ((0 : Int32) &&& 31) = 0 from rfl, Int32.shiftRight_zero]
  refine Ok_of (ls := [.ref (z_top + i)]) (by decide) rfl (Nat.le_of_ble_eq_true rfl) rfl (r_aload_n 0 dJ0_length_8abf5_0 rfl rfl (r_getTv hi dJ0_length_8abf5_1 (lw_good_at (i := 1213) (by decide +kernel) rfl) (r_alenT hi dJ0_length_8abf5_4 (r_aload_n 0 dJ0_length_8abf5_5 rfl rfl (r_callT (C2 := 0) (S2 := 0) hi [] [.int (nI (z_len.getD i 0))] 0 dJ0_length_8abf5_6 lk_J0_335 md_J0_coder_7d493 rfl rfl rfl (Nat.le_of_ble_eq_true rfl) rfl rfl (t_coder hi ?_))))))
  refine r_ishr dJ0_length_8abf5_9 ?_
  rw [sh]
  exact r_ret (some (.int (nI (z_len.getD i 0)))) ⟨.int, rfl, rfl, dJ0_length_8abf5_10⟩ H rfl
theorem t_check3 {e a b : Nat} {v : Value} (hv : v = .null ∨ v = .ref (z_top + 22)) (hab : a < b) (hb : b < 2 ^ 31) (H : Q (some (.int (nI a))) h) : Ok g gr e mJ3_checkIndex_8e157 0 0 [.int (nI a), .int (nI b), v] h Q := by
  refine Ok_of (ls := [.int (nI a), .int (nI b), v]) (by decide) (by rcases hv with rfl | rfl <;> rfl) (Nat.le_of_ble_eq_true rfl) rfl (r_iload_n 0 dJ3_checkIndex_8e157_0 rfl rfl (r_if_lt 9 dJ3_checkIndex_8e157_1 rfl (fun q => absurd q (i_nn (by omega))) (fun _ => r_iload_n 0 dJ3_checkIndex_8e157_4 rfl rfl (r_iload_n 1 dJ3_checkIndex_8e157_5 rfl rfl (r_icmp_lt 16 dJ3_checkIndex_8e157_6 rfl (fun _ => r_iload_n 0 dJ3_checkIndex_8e157_16 rfl rfl (r_ret (some (.int (nI a))) ⟨.int, rfl, rfl, dJ3_checkIndex_8e157_17⟩ H rfl)) (fun q => absurd (nI_lt hab hb) q))))))
theorem t_check {e a b : Nat} (he : 1 ≤ e) (hab : a < b) (hb : b < 2 ^ 31) (H : Q none h) : Ok g gr e mJ0_checkIndex_df160 0 0 [.int (nI a), .int (nI b)] h Q := by
  obtain ⟨d, rfl⟩ := dn he
  refine Ok_of (ls := [.int (nI a), .int (nI b)]) (by decide) rfl (Nat.le_of_ble_eq_true rfl) rfl (r_iload_n 0 dJ0_checkIndex_df160_0 rfl rfl (r_iload_n 1 dJ0_checkIndex_df160_1 rfl rfl (r_getsF dJ0_checkIndex_df160_2 (lw_good_at (i := 885) (by decide +kernel) rfl) (fun v hv => ?_))))
  exact r_callS (C2 := 0) (S2 := 0) [.int (nI a), .int (nI b), v] [] 3 dJ0_checkIndex_df160_5 lk_J0_1059 md_J3_checkIndex_8e157 rfl rfl (by decide) rfl rfl (t_check3 hv hab hb (r_pop dJ0_checkIndex_df160_8 rfl (r_ret none ⟨rfl, dJ0_checkIndex_df160_9⟩ H rfl)))
theorem t_byte : ∀ i, i < 11 → ∀ j, j < z_len.getD i 0 → (((z_byt.getD i []).getD j 0 &&& 255).toUInt32 % 65536).toInt32 = (z_byt.getD i []).getD j 0 ∧ narrow .char (.int ((z_byt.getD i []).getD j 0)) = .int ((z_byt.getD i []).getD j 0) := by decide +kernel
theorem t_char1 {e i j : Nat} (he : 2 ≤ e) (hi : i < 11) (hj : j < z_len.getD i 0) (H : Q (some (.int ((z_byt.getD i []).getD j 0))) h) : Ok g gr e mJ1_charAt_3b067 0 0 [.ref (z_top + (11 + i)), .int (nI j)] h Q := by
  obtain ⟨d, rfl⟩ := dn he
  have hj5 : ∀ i, i < 11 → z_len.getD i 0 < 8 := by decide
  have hj6 := hj5 i hi
  obtain ⟨b1, b2⟩ := t_byte i hi j hj
  refine Ok_of (ls := [.ref (z_top + (11 + i)), .int (nI j)]) (by decide) rfl (Nat.le_of_ble_eq_true rfl) rfl (r_iload_n 1 dJ1_charAt_3b067_0 rfl rfl (r_aload_n 0 dJ1_charAt_3b067_1 rfl rfl (r_alenT hi dJ1_charAt_3b067_2 (r_callS (C2 := 0) (S2 := 0) [.int (nI j), .int (nI (z_len.getD i 0))] [] 2 dJ1_charAt_3b067_3 lk_J1_9 md_J0_checkIndex_df160 rfl rfl (by decide) rfl rfl (t_check (by omega) hj (by omega) ?_)))))
  exact r_aload_n 0 dJ1_charAt_3b067_6 rfl rfl (r_iload_n 1 dJ1_charAt_3b067_7 rfl rfl (r_baT hi hj dJ1_charAt_3b067_8 (r_sipush 255 dJ1_charAt_3b067_9 rfl (r_iand dJ1_charAt_3b067_12 (r_i2c dJ1_charAt_3b067_13 b1 (r_ret (some (.int ((z_byt.getD i []).getD j 0))) ⟨.char, rfl, b2, dJ1_charAt_3b067_14⟩ H rfl))))))
theorem t_charAt {e i j : Nat} (he : 3 ≤ e) (hi : i < 11) (hj : j < z_len.getD i 0) (H : Q (some (.int ((z_byt.getD i []).getD j 0))) h) : Ok g gr e mJ0_charAt_5068e 0 0 [.ref (z_top + i), .int (nI j)] h Q := by
  obtain ⟨d, rfl⟩ := dn he
  obtain ⟨b1, b2⟩ := t_byte i hi j hj
  refine Ok_of (ls := [.ref (z_top + i), .int (nI j)]) (by decide) rfl (Nat.le_of_ble_eq_true rfl) rfl (r_aload_n 0 dJ0_charAt_5068e_0 rfl rfl (r_callT (C2 := 0) (S2 := 0) hi [] [] 0 dJ0_charAt_5068e_1 lk_J0_492 md_J0_isLatin1_aae02 rfl rfl rfl (by decide) rfl rfl (t_isLatin1 hi (r_if_eq 16 dJ0_charAt_5068e_4 rfl (fun q => absurd q (by decide)) (fun _ => r_aload_n 0 dJ0_charAt_5068e_7 rfl rfl (r_getTv hi dJ0_charAt_5068e_8 (lw_good_at (i := 1213) (by decide +kernel) rfl) (r_iload_n 1 dJ0_charAt_5068e_11 rfl rfl (r_callS (C2 := 0) (S2 := 0) [.ref (z_top + (11 + i)), .int (nI j)] [] 2 dJ0_charAt_5068e_12 lk_J0_495 md_J1_charAt_3b067 rfl rfl (by decide) rfl rfl (t_char1 (by omega) hi hj ?_)))))))))
  exact r_ret (some (.int ((z_byt.getD i []).getD j 0))) ⟨.char, rfl, b2, dJ0_charAt_5068e_15⟩ H rfl
end ZTx
