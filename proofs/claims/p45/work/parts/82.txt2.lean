/-! text: words, lines, sizes of the class's reader -/
theorem b_X5_readLine_0 {g : zG} {gr : Bool} {d : Nat} {Q : Option Value → zH → Prop} {m : zm}  (H : Ok g gr (d + 7) mX5_isWord 0 0 [.ref 5, .ref (z_top + 1)] (mk m) (fun r h2 => WP g gr (d + 8) mX5_readLine 0 0 6 [.ref 5] (r.toList ++ []) h2 Q)) : Ok g gr (d + 8) mX5_readLine 0 0 [.ref 5] (mk m) Q :=
  Ok_of (ls := [.ref 5]) (by decide) rfl (Nat.le_of_ble_eq_true rfl) rfl (r_aload_n 0 dX5_readLine_0 rfl rfl (r_ldcS (i := 1) (by decide) rfl dX5_readLine_1 (r_callV (C2 := 0) (S2 := 0) [.ref (z_top + 1)] [] 1 dX5_readLine_3 lk_X5_59 md_X5_isWord (ci := 5) rfl rfl (by decide) (zA a_5) rfl rfl (Nat.le_of_ble_eq_true rfl) rfl rfl H)))
theorem b_X5_readLine_6 {g : zG} {gr : Bool} {d : Nat} {Q : Option Value → zH → Prop} {m : zm} {s0 : Int32} (H : ((s0 = 0 → (Ok g gr (d + 7) mX5_isWord 0 0 [.ref 5, .ref (z_top + 2)] (mk m) (fun r h2 => WP g gr (d + 8) mX5_readLine 0 0 24 [.ref 5] (r.toList ++ []) h2 Q))) ∧ (¬ s0 = 0 → (Ok g gr (d + 7) mX5_step 0 0 [.ref 5] (mk m) (fun r h2 => WP g gr (d + 8) mX5_readLine 0 0 13 [.ref 5] (r.toList ++ []) h2 Q))))) : WP g gr (d + 8) mX5_readLine 0 0 6 [.ref 5] [.int s0] (mk m) Q :=
  (r_if_eq 18 dX5_readLine_6 rfl (fun q1956 => (r_aload_n 0 dX5_readLine_18 rfl rfl (r_ldcS (i := 2) (by decide) rfl dX5_readLine_19 (r_callV (C2 := 0) (S2 := 0) [.ref (z_top + 2)] [] 1 dX5_readLine_21 lk_X5_59 md_X5_isWord (ci := 5) rfl rfl (by decide) (zA a_5) rfl rfl (Nat.le_of_ble_eq_true rfl) rfl rfl (H.1 q1956))))) (fun q1957 => (r_aload_n 0 dX5_readLine_9 rfl rfl (r_callV (C2 := 0) (S2 := 0) [] [] 0 dX5_readLine_10 lk_X5_47 md_X5_step (ci := 5) rfl rfl (by decide) (zA a_5) rfl rfl (Nat.le_of_ble_eq_true rfl) rfl rfl (H.2 q1957)))))
theorem b_X5_readLine_24 {g : zG} {gr : Bool} {d : Nat} {Q : Option Value → zH → Prop} {m : zm} {s0 : Int32} (H : ((s0 = 0 → (Ok g gr (d + 7) mX5_isWord 0 0 [.ref 5, .ref (z_top + 3)] (mk m) (fun r h2 => WP g gr (d + 8) mX5_readLine 0 0 42 [.ref 5] (r.toList ++ []) h2 Q))) ∧ (¬ s0 = 0 → (Ok g gr (d + 7) mX5_step 0 0 [.ref 5] (mk m) (fun r h2 => WP g gr (d + 8) mX5_readLine 0 0 31 [.ref 5] (r.toList ++ []) h2 Q))))) : WP g gr (d + 8) mX5_readLine 0 0 24 [.ref 5] [.int s0] (mk m) Q :=
  (r_if_eq 36 dX5_readLine_24 rfl (fun q1958 => (r_aload_n 0 dX5_readLine_36 rfl rfl (r_ldcS (i := 3) (by decide) rfl dX5_readLine_37 (r_callV (C2 := 0) (S2 := 0) [.ref (z_top + 3)] [] 1 dX5_readLine_39 lk_X5_59 md_X5_isWord (ci := 5) rfl rfl (by decide) (zA a_5) rfl rfl (Nat.le_of_ble_eq_true rfl) rfl rfl (H.1 q1958))))) (fun q1959 => (r_aload_n 0 dX5_readLine_27 rfl rfl (r_callV (C2 := 0) (S2 := 0) [] [] 0 dX5_readLine_28 lk_X5_47 md_X5_step (ci := 5) rfl rfl (by decide) (zA a_5) rfl rfl (Nat.le_of_ble_eq_true rfl) rfl rfl (H.2 q1959)))))
theorem b_X5_readLine_13 {g : zG} {gr : Bool} {d : Nat} {Q : Option Value → zH → Prop} {m : zm}  (H : Ok g gr (d + 7) mX5_readPaint 0 0 [.ref 5] (mk m) (fun r h2 => WP g gr (d + 8) mX5_readLine 0 0 17 [.retAddr 0] (r.toList ++ []) h2 Q)) : WP g gr (d + 8) mX5_readLine 0 0 13 [.ref 5] [] (mk m) Q :=
  (r_aload_n 0 dX5_readLine_13 rfl rfl (r_forget [false] rfl (r_callV (C2 := 0) (S2 := 0) [] [] 0 dX5_readLine_14 lk_X5_80 md_X5_readPaint (ci := 5) rfl rfl (by decide) (zA a_5) rfl rfl (Nat.le_of_ble_eq_true rfl) rfl rfl H)))
theorem b_X5_readLine_42 {g : zG} {gr : Bool} {d : Nat} {Q : Option Value → zH → Prop} {m : zm} {s0 : Int32} (H : ((s0 = 0 → (Ok g gr (d + 7) mX5_isWord 0 0 [.ref 5, .ref (z_top + 4)] (mk m) (fun r h2 => WP g gr (d + 8) mX5_readLine 0 0 62 [.ref 5] (r.toList ++ []) h2 Q))) ∧ (¬ s0 = 0 → (Ok g gr (d + 7) mX5_step 0 0 [.ref 5] (mk m) (fun r h2 => WP g gr (d + 8) mX5_readLine 0 0 49 [.ref 5] (r.toList ++ []) h2 Q))))) : WP g gr (d + 8) mX5_readLine 0 0 42 [.ref 5] [.int s0] (mk m) Q :=
  (r_if_eq 56 dX5_readLine_42 rfl (fun q1960 => (r_aload_n 0 dX5_readLine_56 rfl rfl (r_ldcS (i := 4) (by decide) rfl dX5_readLine_57 (r_callV (C2 := 0) (S2 := 0) [.ref (z_top + 4)] [] 1 dX5_readLine_59 lk_X5_59 md_X5_isWord (ci := 5) rfl rfl (by decide) (zA a_5) rfl rfl (Nat.le_of_ble_eq_true rfl) rfl rfl (H.1 q1960))))) (fun q1961 => (r_aload_n 0 dX5_readLine_45 rfl rfl (r_callV (C2 := 0) (S2 := 0) [] [] 0 dX5_readLine_46 lk_X5_47 md_X5_step (ci := 5) rfl rfl (by decide) (zA a_5) rfl rfl (Nat.le_of_ble_eq_true rfl) rfl rfl (H.2 q1961)))))
theorem b_X5_readLine_31 {g : zG} {gr : Bool} {d : Nat} {Q : Option Value → zH → Prop} {m : zm}  (H : Ok g gr (d + 7) mX5_readLink 0 0 [.ref 5] (mk m) (fun r h2 => WP g gr (d + 8) mX5_readLine 0 0 35 [.retAddr 0] (r.toList ++ []) h2 Q)) : WP g gr (d + 8) mX5_readLine 0 0 31 [.ref 5] [] (mk m) Q :=
  (r_aload_n 0 dX5_readLine_31 rfl rfl (r_forget [false] rfl (r_callV (C2 := 0) (S2 := 0) [] [] 0 dX5_readLine_32 lk_X5_85 md_X5_readLink (ci := 5) rfl rfl (by decide) (zA a_5) rfl rfl (Nat.le_of_ble_eq_true rfl) rfl rfl H)))
theorem b_X5_readLine_17 {g : zG} {gr : Bool} {d : Nat} {Q : Option Value → zH → Prop} {m : zm} {s0 : Int32} (H : (s0 = 0 ∨ s0 = 1) ∧ Q (some (.int s0)) (mk m)) : WP g gr (d + 8) mX5_readLine 0 0 17 [.retAddr 0] [.int s0] (mk m) Q :=
  (r_zret dX5_readLine_17 rfl H.1 H.2)
theorem b_X5_readLine_62 {g : zG} {gr : Bool} {d : Nat} {Q : Option Value → zH → Prop} {m : zm} {s0 : Int32} (H : ((s0 = 0 → (∀ m1964 : zm, m1964 = wI m 5 1 (1 : Int32) → (Q (some (.int (0 : Int32))) (mk (wI m1964 5 2 (m1964.1 5 7)))))) ∧ (¬ s0 = 0 → (Ok g gr (d + 7) mX5_step 0 0 [.ref 5] (mk m) (fun r h2 => WP g gr (d + 8) mX5_readLine 0 0 69 [.ref 5] (r.toList ++ []) h2 Q))))) : WP g gr (d + 8) mX5_readLine 0 0 62 [.ref 5] [.int s0] (mk m) Q :=
  (r_if_eq 76 dX5_readLine_62 rfl (fun q1962 => (r_aload_n 0 dX5_readLine_76 rfl rfl (r_iconst (1) dX5_readLine_77 rfl (r_callV (C2 := 0) (S2 := 0) [.int (1 : Int32)] [] 1 dX5_readLine_78 lk_X5_63 md_X5_fails (ci := 5) rfl rfl (by decide) (zA a_5) rfl rfl (Nat.le_of_ble_eq_true rfl) rfl rfl (b_X5_fails_0  (fun m1964 em1964 => (r_zret dX5_readLine_81 rfl (Or.inl rfl) ((H.1 q1962) m1964 em1964)))))))) (fun q1963 => (r_aload_n 0 dX5_readLine_65 rfl rfl (r_callV (C2 := 0) (S2 := 0) [] [] 0 dX5_readLine_66 lk_X5_47 md_X5_step (ci := 5) rfl rfl (by decide) (zA a_5) rfl rfl (Nat.le_of_ble_eq_true rfl) rfl rfl (H.2 q1963)))))
theorem b_X5_readLine_49 {g : zG} {gr : Bool} {d : Nat} {Q : Option Value → zH → Prop} {m : zm}  (H : Ok g gr (d + 7) mX5_readChain 0 0 [.ref 5, .int (2 : Int32), .int (0 : Int32)] (mk m) (fun r h2 => WP g gr (d + 8) mX5_readLine 0 0 55 [.retAddr 0] (r.toList ++ []) h2 Q)) : WP g gr (d + 8) mX5_readLine 0 0 49 [.ref 5] [] (mk m) Q :=
  (r_aload_n 0 dX5_readLine_49 rfl rfl (r_iconst (2) dX5_readLine_50 rfl (r_iconst (0) dX5_readLine_51 rfl (r_forget [false] rfl (r_callV (C2 := 0) (S2 := 0) [.int (2 : Int32), .int (0 : Int32)] [] 2 dX5_readLine_52 lk_X5_90 md_X5_readChain (ci := 5) rfl rfl (by decide) (zA a_5) rfl rfl (Nat.le_of_ble_eq_true rfl) rfl rfl H)))))
theorem b_X5_readLine_35 {g : zG} {gr : Bool} {d : Nat} {Q : Option Value → zH → Prop} {m : zm} {s0 : Int32} (H : (s0 = 0 ∨ s0 = 1) ∧ Q (some (.int s0)) (mk m)) : WP g gr (d + 8) mX5_readLine 0 0 35 [.retAddr 0] [.int s0] (mk m) Q :=
  (r_zret dX5_readLine_35 rfl H.1 H.2)
theorem b_X5_readLine_69 {g : zG} {gr : Bool} {d : Nat} {Q : Option Value → zH → Prop} {m : zm}  (H : Ok g gr (d + 7) mX5_readChain 0 0 [.ref 5, .int (3 : Int32), .int (1 : Int32)] (mk m) (fun r h2 => WP g gr (d + 8) mX5_readLine 0 0 75 [.retAddr 0] (r.toList ++ []) h2 Q)) : WP g gr (d + 8) mX5_readLine 0 0 69 [.ref 5] [] (mk m) Q :=
  (r_aload_n 0 dX5_readLine_69 rfl rfl (r_iconst (3) dX5_readLine_70 rfl (r_iconst (1) dX5_readLine_71 rfl (r_forget [false] rfl (r_callV (C2 := 0) (S2 := 0) [.int (3 : Int32), .int (1 : Int32)] [] 2 dX5_readLine_72 lk_X5_90 md_X5_readChain (ci := 5) rfl rfl (by decide) (zA a_5) rfl rfl (Nat.le_of_ble_eq_true rfl) rfl rfl H)))))
theorem b_X5_readLine_55 {g : zG} {gr : Bool} {d : Nat} {Q : Option Value → zH → Prop} {m : zm} {s0 : Int32} (H : (s0 = 0 ∨ s0 = 1) ∧ Q (some (.int s0)) (mk m)) : WP g gr (d + 8) mX5_readLine 0 0 55 [.retAddr 0] [.int s0] (mk m) Q :=
  (r_zret dX5_readLine_55 rfl H.1 H.2)
theorem b_X5_readLine_75 {g : zG} {gr : Bool} {d : Nat} {Q : Option Value → zH → Prop} {m : zm} {s0 : Int32} (H : (s0 = 0 ∨ s0 = 1) ∧ Q (some (.int s0)) (mk m)) : WP g gr (d + 8) mX5_readLine 0 0 75 [.retAddr 0] [.int s0] (mk m) Q :=
  (r_zret dX5_readLine_75 rfl H.1 H.2)
theorem b_X5_readSize_0 {g : zG} {gr : Bool} {d : Nat} {Q : Option Value → zH → Prop} {m : zm}  (H : Ok g gr (d + 7) mX5_isWord 0 0 [.ref 5, .ref (z_top + 0)] (mk m) (fun r h2 => WP g gr (d + 8) mX5_readSize 0 0 6 [.ref 5] (r.toList ++ []) h2 Q)) : Ok g gr (d + 8) mX5_readSize 0 0 [.ref 5] (mk m) Q :=
  Ok_of (ls := [.ref 5]) (by decide) rfl (Nat.le_of_ble_eq_true rfl) rfl (r_aload_n 0 dX5_readSize_0 rfl rfl (r_ldcS (i := 0) (by decide) rfl dX5_readSize_1 (r_callV (C2 := 0) (S2 := 0) [.ref (z_top + 0)] [] 1 dX5_readSize_3 lk_X5_59 md_X5_isWord (ci := 5) rfl rfl (by decide) (zA a_5) rfl rfl (Nat.le_of_ble_eq_true rfl) rfl rfl H)))
theorem b_X5_readSize_6 {g : zG} {gr : Bool} {d : Nat} {Q : Option Value → zH → Prop} {m : zm} {s0 : Int32} (H : ((¬ s0 = 0 → (Ok g gr (d + 7) mX5_step 0 0 [.ref 5] (mk m) (fun r h2 => WP g gr (d + 8) mX5_readSize 0 0 19 [.ref 5] (r.toList ++ []) h2 Q))) ∧ (s0 = 0 → (∀ m1979 : zm, m1979 = wI m 5 1 (1 : Int32) → (Q (some (.int (0 : Int32))) (mk (wI m1979 5 2 (m1979.1 5 7)))))))) : WP g gr (d + 8) mX5_readSize 0 0 6 [.ref 5] [.int s0] (mk m) Q :=
  (r_if_ne 15 dX5_readSize_6 rfl (fun q1977 => (r_aload_n 0 dX5_readSize_15 rfl rfl (r_callV (C2 := 0) (S2 := 0) [] [] 0 dX5_readSize_16 lk_X5_47 md_X5_step (ci := 5) rfl rfl (by decide) (zA a_5) rfl rfl (Nat.le_of_ble_eq_true rfl) rfl rfl (H.1 q1977)))) (fun q1978 => (r_aload_n 0 dX5_readSize_9 rfl rfl (r_iconst (1) dX5_readSize_10 rfl (r_callV (C2 := 0) (S2 := 0) [.int (1 : Int32)] [] 1 dX5_readSize_11 lk_X5_63 md_X5_fails (ci := 5) rfl rfl (by decide) (zA a_5) rfl rfl (Nat.le_of_ble_eq_true rfl) rfl rfl (b_X5_fails_0  (fun m1979 em1979 => (r_zret dX5_readSize_14 rfl (Or.inl rfl) ((H.2 q1978) m1979 em1979)))))))))
theorem b_X5_readSize_19 {g : zG} {gr : Bool} {d : Nat} {Q : Option Value → zH → Prop} {m : zm}  (H : (((m.1 5 6) = (1 : Int32) → (((400 : Int32) ≤ (m.1 5 7) → (∀ m1984 : zm, m1984 = wI m 5 1 (2 : Int32) → (Q (some (.int (0 : Int32))) (mk (wI m1984 5 2 (m1984.1 5 7)))))) ∧ (¬ (400 : Int32) ≤ (m.1 5 7) → (vp_in (m.1 5 7) 400 ∧ (((((m.1 21 ((m.1 5 7).toNatClampNeg)) - (48 : Int32)) < (1 : Int32) → (∀ m1988 : zm, m1988 = wI m 5 1 (2 : Int32) → (Q (some (.int (0 : Int32))) (mk (wI m1988 5 2 (m1988.1 5 7)))))) ∧ (¬ ((m.1 21 ((m.1 5 7).toNatClampNeg)) - (48 : Int32)) < (1 : Int32) → ((((m.1 21 ((m.1 5 7).toNatClampNeg)) - (48 : Int32)) ≤ (7 : Int32) → (Ok g gr (d + 7) mX1_empty 0 0 [.ref 6, .int ((m.1 21 ((m.1 5 7).toNatClampNeg)) - (48 : Int32))] (mk m) (fun r h2 => WP g gr (d + 8) mX5_readSize 0 0 67 [.ref 5] (r.toList ++ []) h2 Q))) ∧ (¬ ((m.1 21 ((m.1 5 7).toNatClampNeg)) - (48 : Int32)) ≤ (7 : Int32) → (∀ m1991 : zm, m1991 = wI m 5 1 (2 : Int32) → (Q (some (.int (0 : Int32))) (mk (wI m1991 5 2 (m1991.1 5 7)))))))))))))) ∧ (¬ (m.1 5 6) = (1 : Int32) → (∀ m1992 : zm, m1992 = wI m 5 1 (1 : Int32) → (Q (some (.int (0 : Int32))) (mk (wI m1992 5 2 (m1992.1 5 7)))))))) : WP g gr (d + 8) mX5_readSize 0 0 19 [.ref 5] [] (mk m) Q :=
  (r_aload_n 0 dX5_readSize_19 rfl rfl (q_getI dX5_readSize_20 fl_X5_35_X5 (Or.inl rfl) a_5 (r_iconst (1) dX5_readSize_23 rfl (r_icmp_eq 33 dX5_readSize_24 rfl (fun q1980 => (r_aload_n 0 dX5_readSize_33 rfl rfl (r_callV (C2 := 0) (S2 := 0) [] [] 0 dX5_readSize_34 lk_X5_67 md_X5_digit (ci := 5) rfl rfl (by decide) (zA a_5) rfl rfl (Nat.le_of_ble_eq_true rfl) rfl rfl (b_X5_digit_0  ⟨fun q1982 => (r_iconst (1) dX5_readSize_37 rfl (r_icmp_lt 50 dX5_readSize_38 rfl (fun _ => (r_aload_n 0 dX5_readSize_50 rfl rfl (r_iconst (2) dX5_readSize_51 rfl (r_callV (C2 := 0) (S2 := 0) [.int (2 : Int32)] [] 1 dX5_readSize_52 lk_X5_63 md_X5_fails (ci := 5) rfl rfl (by decide) (zA a_5) rfl rfl (Nat.le_of_ble_eq_true rfl) rfl rfl (b_X5_fails_0  (fun m1984 em1984 => (r_zret dX5_readSize_55 rfl (Or.inl rfl) (((H.1 q1980).1 q1982) m1984 em1984)))))))) (fun hn => absurd (by decide) hn))), fun q1983 => (have e1985 := ((H.1 q1980).2 q1983).1; ⟨e1985, (r_iconst (1) dX5_readSize_37 rfl (r_icmp_lt 50 dX5_readSize_38 rfl (fun q1986 => (r_aload_n 0 dX5_readSize_50 rfl rfl (r_iconst (2) dX5_readSize_51 rfl (r_callV (C2 := 0) (S2 := 0) [.int (2 : Int32)] [] 1 dX5_readSize_52 lk_X5_63 md_X5_fails (ci := 5) rfl rfl (by decide) (zA a_5) rfl rfl (Nat.le_of_ble_eq_true rfl) rfl rfl (b_X5_fails_0  (fun m1988 em1988 => (r_zret dX5_readSize_55 rfl (Or.inl rfl) ((((H.1 q1980).2 q1983).2.1 q1986) m1988 em1988)))))))) (fun q1987 => (r_aload_n 0 dX5_readSize_41 rfl rfl (r_callV (C2 := 0) (S2 := 0) [] [] 0 dX5_readSize_42 lk_X5_67 md_X5_digit (ci := 5) rfl rfl (by decide) (zA a_5) rfl rfl (Nat.le_of_ble_eq_true rfl) rfl rfl (b_X5_digit_0  ⟨fun hn => absurd hn q1983, fun _ => ⟨e1985, (r_bipush (7) dX5_readSize_45 rfl (r_icmp_le 56 dX5_readSize_47 rfl (fun q1989 => (r_aload_n 0 dX5_readSize_56 rfl rfl (q_getR dX5_readSize_57 fl_X5_24_X5 a_5 r_5_3 (r_aload_n 0 dX5_readSize_60 rfl rfl (r_callV (C2 := 0) (S2 := 0) [] [.ref 6] 0 dX5_readSize_61 lk_X5_67 md_X5_digit (ci := 5) rfl rfl (by decide) (zA a_5) rfl rfl (Nat.le_of_ble_eq_true rfl) rfl rfl (b_X5_digit_0  ⟨fun hn => absurd hn q1983, fun _ => ⟨e1985, (r_callV (C2 := 0) (S2 := 0) [.int ((m.1 21 ((m.1 5 7).toNatClampNeg)) - (48 : Int32))] [] 1 dX5_readSize_64 lk_X5_71 md_X1_empty (ci := 1) rfl rfl (by decide) (zA (sX1_a a_6)) rfl rfl (Nat.le_of_ble_eq_true rfl) rfl rfl ((((H.1 q1980).2 q1983).2.2 q1987).1 q1989))⟩⟩)))))) (fun q1990 => (r_aload_n 0 dX5_readSize_50 rfl rfl (r_iconst (2) dX5_readSize_51 rfl (r_callV (C2 := 0) (S2 := 0) [.int (2 : Int32)] [] 1 dX5_readSize_52 lk_X5_63 md_X5_fails (ci := 5) rfl rfl (by decide) (zA a_5) rfl rfl (Nat.le_of_ble_eq_true rfl) rfl rfl (b_X5_fails_0  (fun m1991 em1991 => (r_zret dX5_readSize_55 rfl (Or.inl rfl) (((((H.1 q1980).2 q1983).2.2 q1987).2 q1990) m1991 em1991))))))))))⟩⟩))))))⟩)⟩)))) (fun q1981 => (r_aload_n 0 dX5_readSize_27 rfl rfl (r_iconst (1) dX5_readSize_28 rfl (r_callV (C2 := 0) (S2 := 0) [.int (1 : Int32)] [] 1 dX5_readSize_29 lk_X5_63 md_X5_fails (ci := 5) rfl rfl (by decide) (zA a_5) rfl rfl (Nat.le_of_ble_eq_true rfl) rfl rfl (b_X5_fails_0  (fun m1992 em1992 => (r_zret dX5_readSize_32 rfl (Or.inl rfl) ((H.2 q1981) m1992 em1992))))))))))))
theorem b_X5_readSize_67 {g : zG} {gr : Bool} {d : Nat} {Q : Option Value → zH → Prop} {m : zm}  (H : Ok g gr (d + 7) mX5_step 0 0 [.ref 5] (mk m) (fun r h2 => WP g gr (d + 8) mX5_readSize 0 0 71 [.retAddr 0] (r.toList ++ []) h2 Q)) : WP g gr (d + 8) mX5_readSize 0 0 67 [.ref 5] [] (mk m) Q :=
  (r_aload_n 0 dX5_readSize_67 rfl rfl (r_forget [false] rfl (r_callV (C2 := 0) (S2 := 0) [] [] 0 dX5_readSize_68 lk_X5_47 md_X5_step (ci := 5) rfl rfl (by decide) (zA a_5) rfl rfl (Nat.le_of_ble_eq_true rfl) rfl rfl H)))
theorem b_X5_readSize_71 {g : zG} {gr : Bool} {d : Nat} {Q : Option Value → zH → Prop} {m : zm}  (H : Q (some (.int (1 : Int32))) (mk m)) : WP g gr (d + 8) mX5_readSize 0 0 71 [.retAddr 0] [] (mk m) Q :=
  (r_iconst (1) dX5_readSize_71 rfl (r_zret dX5_readSize_72 rfl (Or.inr rfl) H))
def z_w (i : Nat) : List Nat := [w_size, w_paint, w_link, w_path, w_ring].getD i []
theorem z_wl : ∀ i, i < 5 → z_len.getD i 0 = (z_w i).length ∧ (z_w i).length < 6 := by decide
theorem z_wb : ∀ i, i < 5 → ∀ j, j < (z_w i).length → (z_byt.getD i []).getD j 0 = nI ((z_w i).getD j 0) ∧ (z_w i).getD j 0 < 256 := by decide +kernel
section ZRg
variable {g : zG} {gr : Bool} {e : Nat} {Q : Option Value → zH → Prop} {m : zm} {b : Nat → Nat} {n : Nat}
theorem k_isWord (he : 4 ≤ e) {i : Nat} (hi : i < 5) (hb : ∀ i, b i < 256) (hn : n ≤ 400) {σ : Sr} (h : cP m b n σ) (hT : tkW b n σ.1) (K : ∀ x, ((isWd b σ (z_w i) ∧ x = 1) ∨ (¬ isWd b σ (z_w i) ∧ x = 0)) → Q (some (.int x)) (mk m)) : Ok g gr e mX5_isWord 0 0 [.ref 5, .ref (z_top + i)] (mk m) Q := by
  have hi11 : i < 11 := by omega
  obtain ⟨d, rfl⟩ := dn he
  obtain ⟨c1, c2, c3, c4, c5, c6, c7⟩ := h
  have hk : s_k σ < 5 := hT.2.2.2.2.2.2
  obtain ⟨wl, wl6⟩ := z_wl i hi
  have e2 : (m.1 5 6 = 2 ↔ s_k σ = 2) := by rw [c3]; exact nI_eq (b := 2) (by omega) (by decide)
  refine Ok_of (ls := [.ref 5, .ref (z_top + i), .retAddr 0]) (by decide) rfl (Nat.le_of_ble_eq_true rfl) rfl (r_aload_n 0 dX5_isWord_0 rfl rfl (q_getI dX5_isWord_1 fl_X5_35_X5 (Or.inl rfl) a_5 (r_iconst 2 dX5_isWord_4 rfl (r_icmp_ne 24 dX5_isWord_5 rfl (fun q => ?_) (fun q => ?_)))))
  · exact r_iconst 0 dX5_isWord_24 rfl (r_zret dX5_isWord_25 rfl (Or.inl rfl) (K 0 (Or.inr ⟨fun z => q (e2.mpr z.1), rfl⟩)))
  · have k2 := e2.mp q
    have hax : s_a σ < s_x σ := (hT.2.2.1 (by show σ.1.1 ≠ 0; rw [show σ.1.1 = 2 from k2]; decide)).2
    have hxn : s_x σ ≤ n := hT.2.1
    refine r_aload_n 0 dX5_isWord_8 rfl rfl (q_getI dX5_isWord_9 fl_X5_41_X5 (Or.inl rfl) a_5 (r_aload_n 0 dX5_isWord_12 rfl rfl (q_getI dX5_isWord_13 fl_X5_38_X5 (Or.inl rfl) a_5 (r_isub dX5_isWord_16 (r_aload_n 1 dX5_isWord_17 rfl rfl (r_callT (C2 := 0) (S2 := 0) hi11 [] [.int (m.1 5 8 - m.1 5 7)] 0 dX5_isWord_18 lk_X5_120 md_J0_length_8abf5 rfl rfl rfl (Nat.le_of_ble_eq_true rfl) rfl rfl (t_length (by omega) hi11 ?_)))))))
    have hsub : m.1 5 8 - m.1 5 7 = nI (s_x σ - s_a σ) := by rw [c5, c4, pk_sub (by omega)]
    have key : ∀ f j, j + f = (z_w i).length → s_x σ - s_a σ = (z_w i).length → (∀ k, k < j → b (s_a σ + k) = (z_w i).getD k 0) → WP g gr (d + 4) mX5_isWord 0 0 28 [.ref 5, .ref (z_top + i), .int (nI j)] [] (mk m) Q := by
      intro f
      induction f with
      | zero =>
        intro j hj hl hh
        have ej : j = (z_w i).length := by omega
        refine r_iload_n 2 dX5_isWord_28 rfl rfl (r_aload_n 1 dX5_isWord_29 rfl rfl (r_callT (C2 := 0) (S2 := 0) hi11 [] [.int (nI j)] 0 dX5_isWord_30 lk_X5_120 md_J0_length_8abf5 rfl rfl rfl (Nat.le_of_ble_eq_true rfl) rfl rfl (t_length (by omega) hi11 ?_)))
        refine r_icmp_ge 63 dX5_isWord_33 rfl (fun _ => ?_) (fun q2 => absurd (by rw [wl, ej]; exact Int32.le_refl _) q2)
        exact r_iconst 1 dX5_isWord_63 rfl (r_zret dX5_isWord_64 rfl (Or.inr rfl) (K 1 (Or.inl ⟨⟨k2, hl, fun k hk => hh k (by omega)⟩, rfl⟩)))
      | succ f ih =>
        intro j hj hl hh
        have hjl : j < z_len.getD i 0 := by rw [wl]; omega
        obtain ⟨eb, eb2⟩ := z_wb i hi j (by omega)
        have hin : vp_in (m.1 5 7 + nI j) 400 := by rw [c4, nI_add]; exact pk_in (s_a σ + j) 400 (by omega)
        have hx : (m.1 5 7 + nI j).toNatClampNeg = s_a σ + j := by rw [c4, nI_add]; exact nI_clamp (by omega)
        have ev : m.1 21 (s_a σ + j) = nI (b (s_a σ + j)) := c2 _ (by omega)
        have hbb := hb (s_a σ + j)
        refine r_iload_n 2 dX5_isWord_28 rfl rfl (r_aload_n 1 dX5_isWord_29 rfl rfl (r_callT (C2 := 0) (S2 := 0) hi11 [] [.int (nI j)] 0 dX5_isWord_30 lk_X5_120 md_J0_length_8abf5 rfl rfl rfl (Nat.le_of_ble_eq_true rfl) rfl rfl (t_length (by omega) hi11 ?_)))
        refine r_icmp_ge 63 dX5_isWord_33 rfl (fun q2 => absurd q2 (nI_ge hjl (by omega))) (fun _ => ?_)
        refine r_aload_n 0 dX5_isWord_36 rfl rfl (q_getR dX5_isWord_37 fl_X5_28_X5 a_5 r_5_4 (r_aload_n 0 dX5_isWord_40 rfl rfl (q_getI dX5_isWord_41 fl_X5_38_X5 (Or.inl rfl) a_5 (r_iload_n 2 dX5_isWord_44 rfl rfl (r_iadd dX5_isWord_45 (q_iaload (s_a σ + j) dX5_isWord_46 a_21 hin hx (r_aload_n 1 dX5_isWord_47 rfl rfl (r_iload_n 2 dX5_isWord_48 rfl rfl (r_callT (C2 := 0) (S2 := 0) hi11 [.int (nI j)] [.int (m.1 21 (s_a σ + j))] 1 dX5_isWord_49 lk_X5_125 md_J0_charAt_5068e rfl rfl rfl (Nat.le_of_ble_eq_true rfl) rfl rfl (t_charAt (by omega) hi11 hjl ?_))))))))))
        refine r_icmp_eq 57 dX5_isWord_52 rfl (fun q2 => ?_) (fun q2 => ?_)
        · have eq2 : b (s_a σ + j) = (z_w i).getD j 0 := (nI_eq (by omega) (by omega)).mp (by rw [← ev, ← eb]; exact q2)
          refine r_iinc 2 1 dX5_isWord_57 rfl rfl (Nat.le_of_ble_eq_true rfl) rfl (r_goto 28 dX5_isWord_60 rfl ?_)
          have := ih (j + 1) (by omega) hl (fun k hk => by
            rcases Nat.lt_or_ge k j with z | z
            · exact hh k z
            · rw [show k = j by omega]; exact eq2)
          rw [← nI_1] at this
          exact this
        · refine r_iconst 0 dX5_isWord_55 rfl (r_zret dX5_isWord_56 rfl (Or.inl rfl) (K 0 (Or.inr ⟨fun z => q2 ?_, rfl⟩)))
          rw [ev, eb, z.2.2 j (by omega)]
    refine r_icmp_eq 26 dX5_isWord_21 rfl (fun q2 => ?_) (fun q2 => ?_)
    · rw [hsub, wl] at q2
      have hl : s_x σ - s_a σ = (z_w i).length := (nI_eq (by omega) (by omega)).mp q2
      exact r_iconst 0 dX5_isWord_26 rfl (r_istore_n 2 dX5_isWord_27 rfl (Nat.le_of_ble_eq_true rfl) rfl (key (z_w i).length 0 (Nat.zero_add _) hl (fun k hk => absurd hk (Nat.not_lt_zero _))))
    · refine r_iconst 0 dX5_isWord_24 rfl (r_zret dX5_isWord_25 rfl (Or.inl rfl) (K 0 (Or.inr ⟨fun z => q2 ?_, rfl⟩)))
      rw [hsub, wl, z.2.1]
theorem cR_01 {m m' : zm} {b : Nat → Nat} {n : Nat} {r : Rs} {v : Int32} (h : cR m m' b n r v) : v = 0 ∨ v = 1 := by
  cases r with
  | inl x => exact Or.inl (h.1 x.1 x.2 rfl).1
  | inr τ => exact Or.inr (h.2 τ rfl).1
theorem k_readLine (he : 8 ≤ e) (hb : ∀ i, b i < 256) (hn : n ≤ 400) {σ : Sr} (h : cP m b n σ) (hW : srW b n σ) (K : ∀ m' x, cR m m' b n (rLine b n σ) x → Q (some (.int x)) (mk m')) : Ok g gr e mX5_readLine 0 0 [.ref 5] (mk m) Q := by
  classical
  obtain ⟨d, rfl⟩ := dn he
  unfold rLine at K
  have hW1 := (s_n_W hW).1
  refine b_X5_readLine_0 (k_isWord (i := 1) (by omega) (by decide) hb hn h hW.1 (fun x hx => b_X5_readLine_6 ?_))
  rcases hx with ⟨z1, rfl⟩ | ⟨z1, rfl⟩
  · rw [if_pos (show isWd b σ w_paint from z1)] at K
    refine ⟨fun q => absurd q (by decide), fun _ => k_stepP (by omega) hb hn h hW.1.2.1 (fun m1 h1 f1 => b_X5_readLine_13 ?_)⟩
    exact k_readPaint (by omega) hb hn h1 hW1 (fun m2 x hr => b_X5_readLine_17 ⟨cR_01 hr, K m2 x (cR_f f1 hr)⟩)
  · rw [if_neg (show ¬ isWd b σ w_paint from z1)] at K
    refine ⟨fun _ => k_isWord (i := 2) (by omega) (by decide) hb hn h hW.1 (fun x hx => b_X5_readLine_24 ?_), fun q => absurd rfl q⟩
    rcases hx with ⟨z2, rfl⟩ | ⟨z2, rfl⟩
    · rw [if_pos (show isWd b σ w_link from z2)] at K
      refine ⟨fun q => absurd q (by decide), fun _ => k_stepP (by omega) hb hn h hW.1.2.1 (fun m1 h1 f1 => b_X5_readLine_31 ?_)⟩
      exact k_readLink (by omega) hb hn h1 hW1 (fun m2 x hr => b_X5_readLine_35 ⟨cR_01 hr, K m2 x (cR_f f1 hr)⟩)
    · rw [if_neg (show ¬ isWd b σ w_link from z2)] at K
      refine ⟨fun _ => k_isWord (i := 3) (by omega) (by decide) hb hn h hW.1 (fun x hx => b_X5_readLine_42 ?_), fun q => absurd rfl q⟩
      rcases hx with ⟨z3, rfl⟩ | ⟨z3, rfl⟩
      · rw [if_pos (show isWd b σ w_path from z3)] at K
        refine ⟨fun q => absurd q (by decide), fun _ => k_stepP (by omega) hb hn h hW.1.2.1 (fun m1 h1 f1 => b_X5_readLine_49 ?_)⟩
        exact k_readChain (need := 1) (ring := false) (by omega) hb hn (by decide) h1 hW1 (fun m2 x hr => b_X5_readLine_55 ⟨cR_01 hr, K m2 x (cR_f f1 hr)⟩)
      · rw [if_neg (show ¬ isWd b σ w_path from z3)] at K
        refine ⟨fun _ => k_isWord (i := 4) (by omega) (by decide) hb hn h hW.1 (fun x hx => b_X5_readLine_62 ?_), fun q => absurd rfl q⟩
        rcases hx with ⟨z4, rfl⟩ | ⟨z4, rfl⟩
        · rw [if_pos (show isWd b σ w_ring from z4)] at K
          refine ⟨fun q => absurd q (by decide), fun _ => k_stepP (by omega) hb hn h hW.1.2.1 (fun m1 h1 f1 => b_X5_readLine_69 ?_)⟩
          exact k_readChain (need := 2) (ring := true) (by omega) hb hn (by decide) h1 hW1 (fun m2 x hr => b_X5_readLine_75 ⟨cR_01 hr, K m2 x (cR_f f1 hr)⟩)
        · rw [if_neg (show ¬ isWd b σ w_ring from z4)] at K
          exact ⟨fun _ => c_err h hW.2.1.1 rfl (fun m' a => K m' 0 (cR_l a)), fun q => absurd rfl q⟩
theorem k_readSize (he : 8 ≤ e) (hb : ∀ i, b i < 256) (hn : n ≤ 400) {R : Gr} (hR : gOK R) (h : cP m b n (sr0 b n R)) (K1 : ∀ f p, rAll b n = .inl (f, p) → ∀ m', cE m m' f p → Q (some (.int 0)) (mk m')) (K2 : ∀ τ, srW b n τ → rAll b n = rLines b n 401 τ → ∀ m', cP m' b n τ → fRk m m' → Q (some (.int 1)) (mk m')) : Ok g gr e mX5_readSize 0 0 [.ref 5] (mk m) Q := by
  obtain ⟨d, rfl⟩ := dn he
  have hT := sr0_T b n R
  have hT1 : tkW b n (s_n b n (sr0 b n R)).1 := (s_n_T hT).1
  refine b_X5_readSize_0 (k_isWord (i := 0) (by omega) (by decide) hb hn h hT (fun x hx => b_X5_readSize_6 ?_))
  rcases hx with ⟨z1, rfl⟩ | ⟨z1, rfl⟩
  · have hs : isWd b (sr0 b n (gE 1)) w_size := z1
    refine ⟨fun _ => k_stepP (by omega) hb hn h hT.2.1 (fun m1 h1 f1 => b_X5_readSize_19 ?_), fun q => absurd q (by decide)⟩
    by_cases k1 : s_k (s_n b n (sr0 b n R)) = 1
    · have ha : s_a (s_n b n (sr0 b n R)) < n := (hT1.2.2.1 (by show (s_n b n (sr0 b n R)).1.1 ≠ 0; rw [show (s_n b n (sr0 b n R)).1.1 = 1 from k1]; decide)).1
      have hd := hT1.2.2.2.2.1 k1
      have hd9 := s_dT_le hT1 k1
      have ed : m1.1 21 ((m1.1 5 7).toNatClampNeg) - 48 = nI (s_d b (s_n b n (sr0 b n R))) := by
        rw [h1.2.2.2.1, cw (show s_a (s_n b n (sr0 b n R)) < 2 ^ 31 by omega), h1.2.1 _ ha, show (48 : Int32) = nI 48 from rfl, pk_sub hd.1]
        rfl
      refine ⟨fun _ => ⟨fun z => absurd z (by rw [h1.2.2.2.1]; exact nI_ge (a := s_a (s_n b n (sr0 b n R))) (b := 400) (by omega) (by decide)), fun _ => ⟨by rw [h1.2.2.2.1]; exact pk_in (s_a (s_n b n (sr0 b n R))) 400 (by omega), ?_⟩⟩, fun z => absurd (by rw [h1.2.2.1, k1]; rfl) z⟩
      rw [ed]
      have er : s_d b (s_n b n (sr0 b n (gE 1))) = s_d b (s_n b n (sr0 b n R)) := rfl
      refine pk_lt _ 1 (fun y => ?_) (fun y1 => pk_le _ 7 (fun y2 => ?_) (fun y2 => ?_) rfl rfl (by omega) (by omega)) rfl rfl (by omega) (by omega)
      · exact c_err h1 hR rfl (fun m' a => K1 2 _ (rAll_3 hs k1 (by rw [er]; exact Or.inl y)) m' ⟨a.1, a.2.1, a.2.2.1, fRd_trans f1.1 a.2.2.2⟩)
      · have hr3 : ¬ (s_d b (s_n b n (sr0 b n (gE 1))) < 1 ∨ 7 < s_d b (s_n b n (sr0 b n (gE 1)))) := by rw [er]; omega
        refine k_empty (show sX1 6 from a_6) (by omega) hR h1.2.2.2.2.2.2 (fun m2 a1 a2 => b_X5_readSize_67 ?_)
        refine k_stepP (by omega) hb hn (cP_G h1 a2 a1) hT1.2.1 (fun m3 h3 f3 => b_X5_readSize_71 ?_)
        exact K2 _ (srL_W hr3) (rAll_0 hs k1 hr3) m3 h3 (fRk_trans f1 (fRk_trans (fRk_G a2) f3))
      · exact c_err h1 hR rfl (fun m' a => K1 2 _ (rAll_3 hs k1 (by rw [er]; exact Or.inr y2)) m' ⟨a.1, a.2.1, a.2.2.1, fRd_trans f1.1 a.2.2.2⟩)
    · have e1 : ¬ m1.1 5 6 = 1 := by
        rw [h1.2.2.1]
        exact fun z => k1 ((nI_eq (b := 1) (by have : (s_n b n (sr0 b n R)).1.1 < 5 := hT1.2.2.2.2.2.2; show (s_n b n (sr0 b n R)).1.1 < _; omega) (by decide)).mp z)
      exact ⟨fun z => absurd z e1, fun _ => c_err h1 hR rfl (fun m' a => K1 1 _ (rAll_2 hs k1) m' ⟨a.1, a.2.1, a.2.2.1, fRd_trans f1.1 a.2.2.2⟩)⟩
  · have hs : ¬ isWd b (sr0 b n (gE 1)) w_size := z1
    exact ⟨fun q => absurd rfl q, fun _ => c_err h hR rfl (fun m' a => K1 1 _ (rAll_1 hs) m' a)⟩
theorem c_err0 {σ : Sr} (h : cP m b n σ) (hG : gOK (s_G σ)) {f : Nat} {c : Int32} (hc : c = nI f) (K : ∀ m', cE m m' f (s_a σ) → Q none (mk m')) : ∀ m1, m1 = wI m 5 1 c → Q none (mk (wI m1 5 2 (m1.1 5 7))) :=
  c_err (Q := fun _ h => Q none h) h hG hc K
theorem k_readLines {d : Nat} (hb : ∀ i, b i < 256) (hn : n ≤ 400) : ∀ (f i : Nat) (σ : Sr) (m : zm), i + f = 401 → i ≤ s_a σ → cP m b n σ → srW b n σ → (∀ m', (∀ f' p, rLines b n f σ = .inl (f', p) → cE m m' f' p) → (∀ τ, rLines b n f σ = .inr τ → cP m' b n τ ∧ fRk m m') → Q none (mk m')) → WP g gr (d + 9) mX5_readLines 0 0 2 [.ref 5, .int (nI i)] [] (mk m) Q := by
  intro f
  induction f with
  | zero =>
    intro i σ m hif hia h hW K
    have := hW.1.1
    have := hW.1.2.1
    have : s_a σ = σ.1.2.1 := rfl
    omega
  | succ f ih =>
    intro i σ m hif hia h hW K
    have a1 := hW.1.1
    have a2 := hW.1.2.1
    have a3 : s_a σ = σ.1.2.1 := rfl
    have kk := hW.1.2.2.2.2.2.2
    have fin : ¬ s_k σ = 3 → ((m.1 5 6 = 0 → Q none (mk m)) ∧ (¬ m.1 5 6 = 0 → ∀ m1, m1 = wI m 5 1 (1 : Int32) → Q none (mk (wI m1 5 2 (m1.1 5 7))))) := fun k3 => by
      refine pk_eq (s_k σ) 0 (fun k0 => ?_) (fun k0 => ?_) h.2.2.1 rfl (by show σ.1.1 < _; omega) (by omega)
      · exact K m (fun f' p z => by rw [rLines_0 k0] at z; cases z) (fun τ z => by rw [rLines_0 k0] at z; cases z; exact ⟨h, fRk_refl m⟩)
      · exact c_err0 h hW.2.1.1 rfl (fun m' a => K m' (fun f' p z => by rw [rLines_1 k3 k0] at z; cases z; exact a) (fun τ z => by rw [rLines_1 k3 k0] at z; cases z))
    refine b_X5_readLines_2 (pk_le 400 i (fun z => fin ?_) (fun z => ?_))
    · intro k3
      have := (hW.1.2.2.1 (by show σ.1.1 ≠ 0; rw [show σ.1.1 = 3 from k3]; decide)).1
      omega
    · refine pk_eq (s_k σ) 3 (fun k3 => ?_) (fun k3 => fin k3) h.2.2.1 rfl (by show σ.1.1 < _; omega) (by omega) |> fun h => ⟨h.2, h.1⟩
      have hlt := (hW.1.2.2.1 (by show σ.1.1 ≠ 0; rw [show σ.1.1 = 3 from k3]; decide))
      have hW1 := s_n_W hW
      refine k_stepP (by omega) hb hn h hW.1.2.1 (fun m1 h1 f1 => b_X5_readLines_21 ?_)
      refine k_readLine (by omega) hb hn h1 hW1.1 (fun m2 x hr => b_X5_readLines_25 ?_)
      cases hl : rLine b n (s_n b n σ) with
      | inl y =>
        obtain ⟨rfl, hE⟩ := hr.1 y.1 y.2 hl
        refine ⟨fun q => absurd rfl q, fun _ => K m2 (fun f' p z => ?_) (fun τ z => ?_)⟩
        · rw [rLines_e k3 hl] at z; cases z; exact ⟨hE.1, hE.2.1, hE.2.2.1, fRd_trans f1.1 hE.2.2.2⟩
        · rw [rLines_e k3 hl] at z; cases z
      | inr τ =>
        obtain ⟨rfl, h2, f2⟩ := hr.2 τ hl
        have hT := rLine_W hW1.1 τ hl
        have h8 : s_a σ < s_x σ := hlt.2
        have h9 := hW1.2
        have h10 := hT.2
        refine ⟨fun _ => ?_, fun q => absurd q (by decide)⟩
        rw [nI_1]
        refine ih (i + 1) τ m2 (by omega) (by omega) h2 hT.1 (fun m' p1 p2 => K m' (fun f' p z => ?_) (fun υ z => ?_))
        · rw [rLines_i k3 hl] at z
          have := p1 f' p z
          exact ⟨this.1, this.2.1, this.2.2.1, fRd_trans (fRd_trans f1.1 f2.1) this.2.2.2⟩
        · rw [rLines_i k3 hl] at z
          have := p2 υ z
          exact ⟨this.1, fRk_trans (fRk_trans f1 f2) this.2⟩
theorem k_read (he : 10 ≤ e) (hb : ∀ i, b i < 256) (hn : n ≤ 400) {R : Gr} (hR : gOK R) (hp : pG m 6 R) (hr : ∀ i, i < n → m.1 21 i = nI (b i)) (K : ∀ m', (∀ f p, rAll b n = .inl (f, p) → m'.1 5 1 = nI f ∧ m'.1 5 2 = nI p ∧ ∃ R, gOK R ∧ pG m' 6 R) → (∀ τ, rAll b n = .inr τ → m'.1 5 1 = 0 ∧ pG m' 6 (s_G τ)) → m'.1 5 0 = 0 → fz 5 21 m m' → Q none (mk m')) : Ok g gr e mX5_read 0 0 [.ref 5, .int (nI n)] (mk m) Q := by
  obtain ⟨d, rfl⟩ := dn he
  refine b_X5_read_0 ?_
  rintro m1 rfl m2 rfl m3 rfl m4 rfl m5 rfl
  have f0 : fz 5 21 m (wI (wI (wI (wI (wI m 5 5 (nI n)) 5 0 0) 5 8 0) 5 1 0) 5 9 0) := fun a ha => ⟨funext fun k => by rw [rI_n (by omega), rI_n (by omega), rI_n (by omega), rI_n (by omega), rI_n (by omega)], rfl⟩
  have e5 : (wI (wI (wI (wI (wI m 5 5 (nI n)) 5 0 0) 5 8 0) 5 1 0) 5 9 0).1 5 5 = nI n := by rw [rI_n (by decide), rI_n (by decide), rI_n (by decide), rI_n (by decide), rI_s]
  have e0 : (wI (wI (wI (wI (wI m 5 5 (nI n)) 5 0 0) 5 8 0) 5 1 0) 5 9 0).1 5 0 = 0 := by rw [rI_n (by decide), rI_n (by decide), rI_n (by decide), rI_s]
  have e8 : (wI (wI (wI (wI (wI m 5 5 (nI n)) 5 0 0) 5 8 0) 5 1 0) 5 9 0).1 5 8 = nI 0 := by rw [rI_n (by decide), rI_n (by decide), rI_s]; rfl
  have e1 : (wI (wI (wI (wI (wI m 5 5 (nI n)) 5 0 0) 5 8 0) 5 1 0) 5 9 0).1 5 1 = 0 := by rw [rI_n (by decide), rI_s]
  have e9 : (wI (wI (wI (wI (wI m 5 5 (nI n)) 5 0 0) 5 8 0) 5 1 0) 5 9 0).1 5 9 = nI 0 := by rw [rI_s]; rfl
  have ep : pG (wI (wI (wI (wI (wI m 5 5 (nI n)) 5 0 0) 5 8 0) 5 1 0) 5 9 0) 6 R := pG_eq hp fun a h1 h2 => funext fun k => by rw [rI_n (by omega), rI_n (by omega), rI_n (by omega), rI_n (by omega), rI_n (by omega)]
  revert f0 e5 e0 e8 e1 e9 ep
  generalize wI (wI (wI (wI (wI m 5 5 (nI n)) 5 0 0) 5 8 0) 5 1 0) 5 9 0 = m5
  intro f0 e5 e0 e8 e1 e9 ep
  have hr5 : ∀ i, i < n → m5.1 21 i = nI (b i) := fun i hi => by rw [(f0 21 (by decide)).1]; exact hr i hi
  refine k_step (p := 0) (by omega) hb hn e5 hr5 e8 (Nat.zero_le _) (fun m6 a6 a7 a8 f6 => b_X5_read_29 ?_)
  have h6 : cP m6 b n (sr0 b n R) := ⟨by rw [f6.1 5 5 (by decide)]; exact e5, fun i hi => by rw [f6.1 21 i (by omega)]; exact hr5 i hi, a6, a7, a8, by rw [f6.1 5 9 (by decide)]; exact e9, pG_eq ep fun a h1 h2 => funext fun k => f6.1 a k (by omega)⟩
  have r6 := fRk_678 f6
  refine k_readSize (by omega) hb hn hR h6 (fun f p er m7 hE => b_X5_read_33 ⟨fun _ => ?_, fun q => absurd rfl q⟩) (fun τ hWt er m7 h7 f7 => b_X5_read_33 ⟨fun q => absurd q (by decide), fun _ => ?_⟩)
  · refine K m7 (fun f' p' z => ?_) (fun τ z => ?_) ?_ (fz_trans f0 (fz_trans r6.1.1 hE.2.2.2.1))
    · rw [er] at z; cases z; exact ⟨hE.1, hE.2.1, hE.2.2.1⟩
    · rw [er] at z; cases z
    · rw [hE.2.2.2.2, r6.1.2]; exact e0
  · rw [er] at K
    refine b_X5_readLines_0 (k_readLines hb hn 401 0 τ m7 (by omega) (Nat.zero_le _) h7 hWt (fun m8 p1 p2 => b_X5_read_40 ?_))
    cases hl : rLines b n 401 τ with
    | inl y =>
      have hE := p1 y.1 y.2 hl
      refine K m8 (fun f' p' z => ?_) (fun υ z => ?_) ?_ (fz_trans f0 (fz_trans r6.1.1 (fz_trans f7.1.1 hE.2.2.2.1)))
      · rw [hl] at z; cases z; exact ⟨hE.1, hE.2.1, hE.2.2.1⟩
      · rw [hl] at z; cases z
      · rw [hE.2.2.2.2, f7.1.2, r6.1.2]; exact e0
    | inr υ =>
      have h8 := p2 υ hl
      refine K m8 (fun f' p' z => ?_) (fun υ' z => ?_) ?_ (fz_trans f0 (fz_trans r6.1.1 (fz_trans f7.1.1 h8.2.1.1)))
      · rw [hl] at z; cases z
      · rw [hl] at z; cases z; exact ⟨by rw [h8.2.2, f7.2, r6.2]; exact e1, h8.1.2.2.2.2.2.2⟩
      · rw [h8.2.1.2, f7.1.2, r6.1.2]; exact e0
end ZRg
