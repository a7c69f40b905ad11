/-! draws out of the script -/
theorem i_31 (x : Int32) : ∃ v, v < 2 ^ 31 ∧ x &&& (2147483647 : Int32) = nI v := by
  refine i_neg (l := x &&& (2147483647 : Int32)) (fun h => ?_)
  have h1 : (x &&& (2147483647 : Int32)).toBitVec.toInt < 0 := Int32.lt_iff_toInt_lt.mp h
  have h2 : (x &&& (2147483647 : Int32)).toBitVec.msb = true := by rw [BitVec.msb_eq_toInt]; exact decide_eq_true h1
  rw [Int32.toBitVec_and, BitVec.msb_and, show (2147483647 : Int32).toBitVec.msb = false from by decide, Bool.and_false] at h2
  cases h2
section ZNx
variable {g : zG} {gr : Bool} {d : Nat} {M : zM} {C S pc : Nat} {ls st : List Value} {h : zH} {Q : Option Value → zH → Prop} {m : zm}
theorem r_scr {i : Int32} {k : Nat} (hx : i = nI k) (hk : k < g_N g) (hk2 : k < 2 ^ 31) (hd : decode M.2.1 pc = .ok (.iaload, 1)) (kk : WP g gr d M C S (pc + 1) ls (.int (g_xs g k) :: st) h Q) : WP g gr d M C S pc ls (.int i :: .ref 0 :: st) h Q := by
  subst hx
  intro p e R s m args below meth c mc ms QQ fx ret hmc hms H locs cells slots real rel lo lv hc hs
  obtain ⟨-, -, -, -, scr, e1, e2, e3, e4, e5, e6, -⟩ := fx.2.1
  have hcell : H[g_b g]? = some scr := by rw [rel.1 _ (z_kn_lo e6)]; exact e1
  refine W.iald fx.1.1 fx.1.2.1 (a := g_b g) (cell := scr) (j := nI k) hcell e2 e3 ?_ (v := .int (g_xs g k)) ?_ rfl rfl hd (kk p e R s m args below meth c mc ms QQ fx ret hmc hms H locs cells slots real rel lo lv hc hs)
  · rw [nI_clamp hk2, e4]
    rintro (q | q)
    · exact i_nn hk2 q
    · omega
  · rw [nI_clamp hk2]
    exact e5 k hk
theorem r_slen (hd : decode M.2.1 pc = .ok (.arraylength, 1)) (kk : WP g gr d M C S (pc + 1) ls (.int (nI (g_N g)) :: st) h Q) : WP g gr d M C S pc ls (.ref 0 :: st) h Q := by
  intro p e R s m args below meth c mc ms QQ fx ret hmc hms H locs cells slots real rel lo lv hc hs
  obtain ⟨-, -, -, -, scr, e1, e2, e3, e4, e5, e6, -⟩ := fx.2.1
  have hcell : H[g_b g]? = some scr := by rw [rel.1 _ (z_kn_lo e6)]; exact e1
  exact W.alen fx.1.1 fx.1.2.1 (a := g_b g) (cell := scr) hcell e2 (n := nI (g_N g)) (by rw [e4]; rfl) rfl rfl hd (kk p e R s m args below meth c mc ms QQ fx ret hmc hms H locs cells slots real rel lo lv hc hs)
theorem k_next {e a lo hi : Nat} (hN : g_N g < 2 ^ 31) (ha : a + 1 < 2 ^ 31) (hlh : lo ≤ hi) (hhi : hi + 1 < 2 ^ 31) (hd : m.1 810 1 = nI a) (K : ∀ x, lo ≤ x → x ≤ hi → Q (some (.int (nI x))) (mk (wI m 810 1 (nI (a + 1))))) : Ok g gr e mX10_next 0 0 [.ref 810, .int (nI lo), .int (nI hi)] (mk m) Q := by
  have rest : ∀ v, v < 2 ^ 31 → WP g gr e mX10_next 0 0 28 [.ref 810, .int (nI lo), .int (nI hi), .retAddr 0] [.int (nI v)] (mk m) Q := by
    intro v hv
    refine r_istore_n 3 dX10_next_28 rfl (Nat.le_of_ble_eq_true rfl) rfl ?_
    refine r_aload_n 0 dX10_next_29 rfl rfl (r_dup dX10_next_30 rfl (q_getI dX10_next_31 fl_X10_13_X10 (Or.inl rfl) a_810 ?_))
    rw [hd]
    refine r_iconst (1) dX10_next_34 rfl (r_iadd dX10_next_35 ?_)
    rw [nI_1]
    refine q_putI dX10_next_36 fp_X10_13_X10 (Or.inl rfl) a_810 ?_
    refine r_iload_n 1 dX10_next_39 rfl rfl (r_iload_n 3 dX10_next_40 rfl rfl (r_iload_n 2 dX10_next_41 rfl rfl (r_iload_n 1 dX10_next_42 rfl rfl (r_isub dX10_next_43 ?_))))
    rw [pk_sub hlh]
    refine r_iconst (1) dX10_next_44 rfl (r_iadd dX10_next_45 ?_)
    rw [nI_1]
    have hk : hi - lo + 1 < 2 ^ 31 := by omega
    refine r_irem dX10_next_46 (fun z => by have := (nI_eq (b := 0) hk (by decide)).mp z; omega) ?_
    rw [pk_rem hv (by omega) hk]
    refine r_iadd dX10_next_47 ?_
    rw [nI_add]
    have hm : v % (hi - lo + 1) < hi - lo + 1 := Nat.mod_lt _ (by omega)
    exact r_iret dX10_next_48 rfl (K _ (by omega) (by omega))
  refine Ok_of (ls := [.ref 810, .int (nI lo), .int (nI hi), .retAddr 0]) (by decide) rfl (Nat.le_of_ble_eq_true rfl) rfl ?_
  refine r_aload_n 0 dX10_next_0 rfl rfl (q_getI dX10_next_1 fl_X10_13_X10 (Or.inl rfl) a_810 ?_)
  rw [hd]
  refine r_aload_n 0 dX10_next_4 rfl rfl (q_getR dX10_next_5 fl_X10_7_X10 a_810 r_810_0 (r_slen dX10_next_8 ?_))
  refine r_icmp_ge 27 dX10_next_9 rfl (fun _ => ?_) (fun z => ?_)
  · exact r_iconst (0) dX10_next_27 rfl (rest 0 (by decide))
  · have hk : a < g_N g := by
      rcases Nat.lt_or_ge a (g_N g) with y | y
      · exact y
      · exact absurd (nI_le y (by omega)) z
    refine r_aload_n 0 dX10_next_12 rfl rfl (q_getR dX10_next_13 fl_X10_7_X10 a_810 r_810_0 (r_aload_n 0 dX10_next_16 rfl rfl (q_getI dX10_next_17 fl_X10_13_X10 (Or.inl rfl) a_810 ?_)))
    rw [hd]
    refine r_scr rfl hk (by omega) dX10_next_20 (r_ldc dX10_next_21 kc_X10_17 (r_iand dX10_next_23 (r_goto 28 dX10_next_24 rfl ?_)))
    obtain ⟨v, hv, ev⟩ := i_31 (g_xs g a)
    rw [ev]
    exact rest v hv
end ZNx
