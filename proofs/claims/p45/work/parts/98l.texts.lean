/-! texts: a constant or a String that was made -/
section ZStr
variable {g : zG} {gr : Bool} {d : Nat} {M M2 : zM} {C S pc : Nat} {ls st st0 : List Value} {h : zH} {Q : Option Value → zH → Prop}
/-- the constants' letters -/
def tCl : List (List Nat) := [[115, 105, 122, 101], [112, 97, 105, 110, 116], [108, 105, 110, 107], [112, 97, 116, 104], [114, 105, 110, 103], [115, 105, 122, 101, 32], [59, 112, 97, 105, 110, 116, 32], [59, 114, 105, 110, 103], [59, 108, 105, 110, 107, 32], [], [32]]
def tC (i : Nat) : List Nat := tCl.getD i []
theorem tC_ok : ∀ i, i < 11 → (tC i).length = z_len.getD i 0 ∧ (tC i).length < 8 ∧ (∀ j, j < z_len.getD i 0 → (z_byt.getD i []).getD j 0 = nI ((tC i).getD j 0)) ∧ ∀ c ∈ tC i, c < 128 := by decide +kernel
/-- x is a String of the letters l, y its row -/
def tS (h : zH) (x y : Nat) (l : List Nat) : Prop := (∀ c ∈ l, c < 128) ∧ l.length < 65536 ∧ ((∃ i, i < 11 ∧ x = z_top + i ∧ y = z_top + (11 + i) ∧ l = tC i) ∨ (z_isA h x 10 4 ∧ z_R h x 0 = some y ∧ z_I h x 1 = 0 ∧ z_isA h y 29 l.length ∧ ∀ j, j < l.length → z_I h y j = nI (l.getD j 0)))
theorem tS_con {i : Nat} (hi : i < 11) : tS h (z_top + i) (z_top + (11 + i)) (tC i) := ⟨(tC_ok i hi).2.2.2, by have := (tC_ok i hi).2.1; omega, Or.inl ⟨i, hi, rfl, rfl, rfl⟩⟩
theorem c7_fit {c : Nat} (h : c < 128) : fits .byte (.int (nI c)) = true ∧ narrow .byte (.int (nI c)) = .int (nI c) ∧ ((nI c &&& 255).toUInt32 % 65536).toInt32 = nI c ∧ narrow .char (.int (nI c)) = .int (nI c) ∧ (nI c).toInt8.toInt32 = nI c ∧ ((nI c).toUInt32 % 65536).toInt32 = nI c := by
  have key : ∀ c, c < 128 → fits .byte (.int (nI c)) = true ∧ narrow .byte (.int (nI c)) = .int (nI c) ∧ ((nI c &&& 255).toUInt32 % 65536).toInt32 = nI c ∧ narrow .char (.int (nI c)) = .int (nI c) ∧ (nI c).toInt8.toInt32 = nI c ∧ ((nI c).toUInt32 % 65536).toInt32 = nI c := by decide +kernel
  exact key c h
theorem tS_at {x y : Nat} {l : List Nat} (t : tS h x y l) {j : Nat} (hj : j < l.length) : l.getD j 0 < 128 := by
  rw [List.getD_eq_getElem?_getD, List.getElem?_eq_getElem hj]
  exact t.1 _ (List.getElem_mem hj)
theorem tS_BS {x y : Nat} {l : List Nat} (t : tS h x y l) : zBS g gr h y l.length (fun j => nI (l.getD j 0)) := by
  intro s H kk rel
  rcases t.2.2 with ⟨i, hi, rfl, rfl, rfl⟩ | ⟨h1, h2, h3, h4, h5⟩
  · obtain ⟨cell, c1, c2, c3, c4, c5⟩ := zBS_con (h := h) (gr := gr) (g := g) hi s H kk rel
    obtain ⟨k1, k2, k3, k4⟩ := tC_ok i hi
    exact ⟨cell, c1, c2, c3, by rw [k1]; exact c4, fun j hj => (c5 j (by rw [← k1]; exact hj)).trans (congrArg (fun v => some (Value.int v)) (k3 j (by rw [← k1]; exact hj)))⟩
  · obtain ⟨cell, c1, c2, c3, c4, c5⟩ := zBS_row (g := g) (gr := gr) h4 s H kk rel
    exact ⟨cell, c1, c2, c3, c4, fun j hj => (c5 j hj).trans (congrArg (fun v => some (Value.int v)) (h5 j hj))⟩
theorem r_alenS {x y : Nat} {l : List Nat} (t : tS h x y l) (hd : decode M.2.1 pc = .ok (.arraylength, 1)) (k : WP g gr d M C S (pc + 1) ls (.int (nI l.length) :: st) h Q) : WP g gr d M C S pc ls (.ref y :: st) h Q := by
  rcases t.2.2 with ⟨i, hi, rfl, rfl, rfl⟩ | ⟨h1, h2, h3, h4, h5⟩
  · rw [(tC_ok i hi).1] at k
    exact r_alenT hi hd k
  · exact r_alenG hd h4 (by omega) k
theorem r_baS {x y j : Nat} {l : List Nat} (t : tS h x y l) (hj : j < l.length) (hd : decode M.2.1 pc = .ok (.baload, 1)) (k : WP g gr d M C S (pc + 1) ls (.int (nI (l.getD j 0)) :: st) h Q) : WP g gr d M C S pc ls (.int (nI j) :: .ref y :: st) h Q := by
  rcases t.2.2 with ⟨i, hi, rfl, rfl, rfl⟩ | ⟨h1, h2, h3, h4, h5⟩
  · obtain ⟨k1, k2, k3, k4⟩ := tC_ok i hi
    rw [← k3 j (by rw [← k1]; exact hj)] at k
    exact r_baT hi (by rw [← k1]; exact hj) hd k
  · have hl := t.2.1
    refine r_baB hd h4 (vp_in_nI hj (by omega)) ?_
    rw [nI_clamp (by omega), h5 j hj]
    exact k
theorem r_getSv {x y : Nat} {l : List Nat} (t : tS h x y l) (hM : M.1.cls = "java/lang/String") (hd : decode M.2.1 pc = .ok (.getfield 9, 3)) (k : WP g gr d M C S (pc + 3) ls (.ref y :: st) h Q) : WP g gr d M C S pc ls (.ref x :: st) h Q := by
  rcases t.2.2 with ⟨i, hi, rfl, rfl, rfl⟩ | ⟨h1, h2, h3, h4, h5⟩
  · exact r_getTv hi hd (by rw [hM]; exact (lw_good_at (i := 1213) (by decide +kernel) rfl)) k
  · exact r_getR hd (by rw [hM]; exact fl_J0_9_J0) h1 h2 k
theorem r_getSc {x y : Nat} {l : List Nat} (t : tS h x y l) (hM : M.1.cls = "java/lang/String") (hd : decode M.2.1 pc = .ok (.getfield 15, 3)) (k : WP g gr d M C S (pc + 3) ls (.int 0 :: st) h Q) : WP g gr d M C S pc ls (.ref x :: st) h Q := by
  rcases t.2.2 with ⟨i, hi, rfl, rfl, rfl⟩ | ⟨h1, h2, h3, h4, h5⟩
  · exact r_getTc hi hd (by rw [hM]; exact (lw_good_at (i := 1214) (by decide +kernel) rfl)) k
  · refine r_getB hd (by rw [hM]; exact fl_J0_15_J0) h1 ?_
    rw [h3]
    exact k
theorem r_callSt {x y : Nat} {l : List Nat} (t : tS h x y l) {ix C1 S1 : Nat} (As : List Value) (st : List Value) (n9 : Nat) (hd : decode M.2.1 pc = .ok (.invokevirtual ix, 3)) (lk : z_LV M.1.cls ix "java/lang/String" M2) (md : z_MD M2 n9) (hCn : M2.1.cls = "java/lang/String") (hn : As.length = n9) (hst : st0 = As.reverse ++ .ref x :: st) (hcat : (st.map fun v => v.category).sum ≤ 8) {C2 S2 : Nat} (hC : C = C1 + C2) (hS : S = S1 + S2)
    (ok : Ok g gr d M2 C1 S1 (.ref x :: As) h (fun r h2 => WP g gr (d + 1) M C2 S2 (pc + 3) ls (r.toList ++ st) h2 Q)) : WP g gr (d + 1) M C S pc ls st0 h Q := by
  rcases t.2.2 with ⟨i, hi, rfl, rfl, rfl⟩ | ⟨h1, h2, h3, h4, h5⟩
  · exact r_callT hi As st n9 hd lk md hCn hn hst hcat hC hS ok
  · exact r_callV As st n9 hd lk md (ci := 10) rfl hCn (by decide) h1 hn hst hcat hC hS ok
theorem u_coder {e x y : Nat} {l : List Nat} (t : tS h x y l) (H : Q (some (.int 0)) h) : Ok g gr e mJ0_coder_7d493 0 0 [.ref x] h Q :=
  Ok_of (ls := [.ref x]) (by decide) rfl (Nat.le_of_ble_eq_true rfl) rfl (r_getsC dJ0_coder_7d493_0 (lw_good_at (i := 869) (by decide +kernel) rfl) (r_if_eq 13 dJ0_coder_7d493_3 rfl (fun q => absurd q (by decide)) (fun _ => r_aload_n 0 dJ0_coder_7d493_6 rfl rfl (r_getSc t rfl dJ0_coder_7d493_7 (r_goto 14 dJ0_coder_7d493_10 rfl (r_ret (some (.int 0)) ⟨.byte, rfl, rfl, dJ0_coder_7d493_14⟩ H rfl))))))
theorem u_isLatin1 {e x y : Nat} {l : List Nat} (t : tS h x y l) (H : Q (some (.int 1)) h) : Ok g gr e mJ0_isLatin1_aae02 0 0 [.ref x] h Q :=
  Ok_of (ls := [.ref x]) (by decide) rfl (Nat.le_of_ble_eq_true rfl) rfl (r_getsC dJ0_isLatin1_aae02_0 (lw_good_at (i := 869) (by decide +kernel) rfl) (r_if_eq 17 dJ0_isLatin1_aae02_3 rfl (fun q => absurd q (by decide)) (fun _ => r_aload_n 0 dJ0_isLatin1_aae02_6 rfl rfl (r_getSc t rfl dJ0_isLatin1_aae02_7 (r_if_ne 17 dJ0_isLatin1_aae02_10 rfl (fun q => absurd rfl q) (fun _ => r_iconst 1 dJ0_isLatin1_aae02_13 rfl (r_goto 18 dJ0_isLatin1_aae02_14 rfl (r_ret (some (.int 1)) ⟨.boolean, rfl, rfl, dJ0_isLatin1_aae02_18⟩ H rfl))))))))
theorem u_length {e x y : Nat} {l : List Nat} (he : 1 ≤ e) (t : tS h x y l) (H : Q (some (.int (nI l.length))) h) : Ok g gr e mJ0_length_8abf5 0 0 [.ref x] h Q := by
  obtain ⟨d, rfl⟩ := dn he
  refine Ok_of (ls := [.ref x]) (by decide) rfl (Nat.le_of_ble_eq_true rfl) rfl (r_aload_n 0 dJ0_length_8abf5_0 rfl rfl (r_getSv t rfl dJ0_length_8abf5_1 (r_alenS t dJ0_length_8abf5_4 (r_aload_n 0 dJ0_length_8abf5_5 rfl rfl (r_callSt (C2 := 0) (S2 := 0) t [] [.int (nI l.length)] 0 dJ0_length_8abf5_6 lk_J0_335 md_J0_coder_7d493 rfl rfl rfl (Nat.le_of_ble_eq_true rfl) rfl rfl (u_coder t ?_))))))
  refine r_ishr dJ0_length_8abf5_9 ?_
  rw [sb_shr0]
  exact r_ret (some (.int (nI l.length))) ⟨.int, rfl, rfl, dJ0_length_8abf5_10⟩ H rfl
theorem u_char1 {e x y j : Nat} {l : List Nat} (he : 2 ≤ e) (t : tS h x y l) (hj : j < l.length) (H : Q (some (.int (nI (l.getD j 0)))) h) : Ok g gr e mJ1_charAt_3b067 0 0 [.ref y, .int (nI j)] h Q := by
  obtain ⟨d, rfl⟩ := dn he
  have hl := t.2.1
  obtain ⟨-, -, b1, b2, -, -⟩ := c7_fit (tS_at t hj)
  refine Ok_of (ls := [.ref y, .int (nI j)]) (by decide) rfl (Nat.le_of_ble_eq_true rfl) rfl (r_iload_n 1 dJ1_charAt_3b067_0 rfl rfl (r_aload_n 0 dJ1_charAt_3b067_1 rfl rfl (r_alenS t dJ1_charAt_3b067_2 (r_callS (C2 := 0) (S2 := 0) [.int (nI j), .int (nI l.length)] [] 2 dJ1_charAt_3b067_3 lk_J1_9 md_J0_checkIndex_df160 rfl rfl (by decide) rfl rfl (t_check (by omega) hj (by omega) ?_)))))
  exact r_aload_n 0 dJ1_charAt_3b067_6 rfl rfl (r_iload_n 1 dJ1_charAt_3b067_7 rfl rfl (r_baS t hj dJ1_charAt_3b067_8 (r_sipush 255 dJ1_charAt_3b067_9 rfl (r_iand dJ1_charAt_3b067_12 (r_i2c dJ1_charAt_3b067_13 b1 (r_ret (some (.int (nI (l.getD j 0)))) ⟨.char, rfl, b2, dJ1_charAt_3b067_14⟩ H rfl))))))
theorem u_charAt {e x y j : Nat} {l : List Nat} (he : 3 ≤ e) (t : tS h x y l) (hj : j < l.length) (H : Q (some (.int (nI (l.getD j 0)))) h) : Ok g gr e mJ0_charAt_5068e 0 0 [.ref x, .int (nI j)] h Q := by
  obtain ⟨d, rfl⟩ := dn he
  obtain ⟨-, -, b1, b2, -, -⟩ := c7_fit (tS_at t hj)
  refine Ok_of (ls := [.ref x, .int (nI j)]) (by decide) rfl (Nat.le_of_ble_eq_true rfl) rfl (r_aload_n 0 dJ0_charAt_5068e_0 rfl rfl (r_callSt (C2 := 0) (S2 := 0) t [] [] 0 dJ0_charAt_5068e_1 lk_J0_492 md_J0_isLatin1_aae02 rfl rfl rfl (by decide) rfl rfl (u_isLatin1 t (r_if_eq 16 dJ0_charAt_5068e_4 rfl (fun q => absurd q (by decide)) (fun _ => r_aload_n 0 dJ0_charAt_5068e_7 rfl rfl (r_getSv t rfl dJ0_charAt_5068e_8 (r_iload_n 1 dJ0_charAt_5068e_11 rfl rfl (r_callS (C2 := 0) (S2 := 0) [.ref y, .int (nI j)] [] 2 dJ0_charAt_5068e_12 lk_J0_495 md_J1_charAt_3b067 rfl rfl (by decide) rfl rfl (u_char1 (by omega) t hj ?_)))))))))
  exact r_ret (some (.int (nI (l.getD j 0)))) ⟨.char, rfl, b2, dJ0_charAt_5068e_15⟩ H rfl
/-- String.getBytes into a row -/
theorem u_getBytes {e x y b n1 p : Nat} {l : List Nat} (he : 1 ≤ e) (t : tS h x y l) (hb : z_isA h b 29 n1) (hp : p + l.length ≤ n1) (hn : n1 < 65536) (H : Q none (hcp h b p l.length (fun j => nI (l.getD j 0)))) : Ok g gr e mJ0_getBytes_840e7 0 0 [.ref x, .ref b, .int (nI p), .int 0] h Q := by
  obtain ⟨d, rfl⟩ := dn he
  refine Ok_of (ls := [.ref x, .ref b, .int (nI p), .int 0]) (by decide) rfl (Nat.le_of_ble_eq_true rfl) rfl ?_
  refine r_aload_n 0 dJ0_getBytes_840e7_0 rfl rfl ?_
  refine r_callSt (C2 := 0) (S2 := 0) t [] [] 0 dJ0_getBytes_840e7_1 lk_J0_335 md_J0_coder_7d493 rfl rfl rfl (by decide) rfl rfl (u_coder t ?_)
  refine r_iload_n 3 dJ0_getBytes_840e7_4 rfl rfl ?_
  refine r_icmp_ne 28 dJ0_getBytes_840e7_5 rfl (fun q => absurd rfl q) (fun _ => ?_)
  refine r_aload_n 0 dJ0_getBytes_840e7_8 rfl rfl ?_
  refine r_getSv t rfl dJ0_getBytes_840e7_9 ?_
  refine r_iconst 0 dJ0_getBytes_840e7_12 rfl ?_
  refine r_aload_n 1 dJ0_getBytes_840e7_13 rfl rfl ?_
  refine r_iload_n 2 dJ0_getBytes_840e7_14 rfl rfl ?_
  refine r_iload_n 3 dJ0_getBytes_840e7_15 rfl rfl ?_
  refine r_ishl dJ0_getBytes_840e7_16 ?_
  rw [sb_shl0]
  refine r_aload_n 0 dJ0_getBytes_840e7_17 rfl rfl ?_
  refine r_getSv t rfl dJ0_getBytes_840e7_18 ?_
  refine r_alenS t dJ0_getBytes_840e7_21 ?_
  refine r_copyB (sp := 0) (N := l.length) (f := fun j => nI (l.getD j 0)) dJ0_getBytes_840e7_22 lk_J0_212 (tS_BS t) hb (by omega) hp (by omega) (by omega) (fun j hj => (c7_fit (tS_at t hj)).1) (by omega) (by decide) ?_
  refine r_goto 43 dJ0_getBytes_840e7_25 rfl ?_
  refine r_vret dJ0_getBytes_840e7_43 rfl ?_
  simp only [Nat.zero_add]
  exact H
end ZStr
