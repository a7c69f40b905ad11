/-! the law behind its text: facts -/
theorem sm_bd {f : Nat → Nat} {n B : Nat} (h : ∀ v, v < n → f v ≤ B) : fb_sm f n ≤ n * B := by
  have := fb_sm_le (f := f) (g := fun _ => B) h
  rw [fb_sm_const] at this
  exact this
theorem nn_bd {G : Gr} (hn : gn G ≤ 7) : ∀ (k : Nat) (c : Nat → Nat) (q : Nat), nn G k c q ≤ 8 ^ k := by
  intro k
  induction k with
  | zero => intro c q; exact Nat.zero_le _
  | succ k ih =>
    intro c q
    have hp := Nat.pow_pos (n := k) (show 0 < 8 by decide)
    show (if tg c (gn G) q = 0 then 1 else 1 + fb_sm (fun v => if c v + 1 = tg c (gn G) q then nn G k (nx G c q v).1 (nx G c q v).2.1 else 0) (gn G)) ≤ _
    rw [Nat.pow_succ]
    split
    · omega
    · have h1 := sm_bd (f := fun v => if c v + 1 = tg c (gn G) q then nn G k (nx G c q v).1 (nx G c q v).2.1 else 0) (n := gn G) (B := 8 ^ k) (fun v _ => by
        show (if _ then _ else _) ≤ _
        split
        · exact ih _ _
        · exact Nat.zero_le _)
      have h2 : gn G * 8 ^ k ≤ 7 * 8 ^ k := Nat.mul_le_mul_right _ hn
      omega
theorem tn_bd {G : Gr} (hG : gWF G) : t_n (tree G) < 2 ^ 31 := by
  rw [tree_n]
  exact Nat.lt_of_le_of_lt (nn_bd hG.2.1.2 7 _ _) (by decide)
theorem sg_bd {G : Gr} (hG : gWF G) : (S_g (srch G)).length ≤ 5040 := by
  have hi := nod_0 hG
  have hsl := srch_l hG
  have hsg : sgo (srch G) := sw_sgo hG hi sgo_0
  by_cases z : S_l (srch G) = 0
  · rw [hsg.1 z]; exact Nat.zero_le _
  · have := hsg.2 z; omega
theorem sg_mem {L : List Nat} {i : Nat} (h : i < L.length) : L.getD i 0 ∈ L := by
  rw [List.getD_eq_getElem?_getD, List.getElem?_eq_getElem h]
  exact List.getElem_mem h
theorem sl_b1 (n : Nat) (l : Lf) (s : SS) : S_b (sl n l s) ≤ S_b s + 1 := by
  unfold sl
  by_cases h0 : S_l s = 0
  · rw [if_pos h0]; exact Nat.le_refl _
  · rw [if_neg h0]
    split
    · exact Nat.le_succ _
    · split
      · exact Nat.le_refl _
      · split
        · exact Nat.le_succ _
        · exact Nat.le_succ _
theorem sw_b (G : Gr) : ∀ (k : Nat) (c : Nat → Nat) (q d : Nat) (ms : Nat → Nat) (apb : Nat) (s : SS), S_b s ≤ S_l s → S_b (sw G k c q d ms apb s) ≤ S_l (sw G k c q d ms apb s) := by
  intro k
  induction k with
  | zero => intro c q d ms apb s h; exact h
  | succ k ih =>
    intro c q d ms apb s hs
    by_cases h : tg c (gn G) q = 0
    · show S_b (if _ then _ else _) ≤ S_l (if _ then _ else _)
      rw [if_pos h]
      have a1 := sl_b1 (gn G) (mkl G c d ms) (ss_n s)
      have a1 : S_b (sl (gn G) (mkl G c d ms) (ss_n s)) ≤ S_b s + 1 := a1
      have a2 : S_l (sl (gn G) (mkl G c d ms) (ss_n s)) = S_l s + 1 := (sl_n (gn G) (mkl G c d ms) (ss_n s)).2.1
      rw [a2]; omega
    · show S_b (if _ then _ else _) ≤ S_l (if _ then _ else _)
      rw [if_neg h]
      exact it_inv (f := fun v (x : Nat × SS) => if c v + 1 = tg c (gn G) q then (if (cl (gn G) apb (S_g x.2) 7 x.1).testBit v = true then (x.1, ss_k x.2) else (x.1 ||| 2 ^ v, if cutc x.2 (msn G c q v d ms) (d + 1) = true then ss_c x.2 else sw G k (nx G c q v).1 (nx G c q v).2.1 (d + 1) (msn G c q v d ms) (apb ||| 2 ^ v) x.2)) else x) (n := gn G) (s := ((0 : Nat), ss_n s))
        (fun _ x => S_b x.2 ≤ S_l x.2) hs
        (fun v x _ hx => by
          by_cases hc : c v + 1 = tg c (gn G) q
          · rw [if_pos hc]
            split
            · exact hx
            · dsimp only
              split
              · exact hx
              · exact ih _ _ _ _ _ _ hx
          · rw [if_neg hc]; exact hx)
theorem sb_bd {G : Gr} (hG : gWF G) : S_b (srch G) < 2 ^ 31 := by
  have h1 := sw_b G 7 (st G).1 (st G).2.1 0 (ms0 G) 0 ss0 (Nat.le_refl _)
  have h1 : S_b (srch G) ≤ S_l (srch G) := h1
  have h2 := (srch_cnt hG).2.1
  have h3 := tree_l hG
  omega
/-- the first bit -/
theorem tz_bit {r v : Nat} (hr : r < 128) (hv : v < 7) (hb : r.testBit v = true) : fTz (nI r) = nI v ↔ r % 2 ^ v = 0 := by
  have h0 : r ≠ 0 := fun z => by rw [z, Nat.zero_testBit] at hb; cases hb
  rw [i_tzb _ hr h0]
  have h7 := fa_first_le r.testBit 7
  rw [nI_eq (by omega) (by omega)]
  have lo : r % 2 ^ v = 0 ↔ ∀ i, i < v → r.testBit i = false := by
    constructor
    · intro z i hi
      have := Nat.testBit_mod_two_pow r v i
      rw [z, Nat.zero_testBit, decide_eq_true hi] at this
      simpa using this.symm
    · intro z
      refine Nat.eq_of_testBit_eq fun i => ?_
      rw [Nat.testBit_mod_two_pow, Nat.zero_testBit]
      by_cases y : i < v
      · rw [z i y, Bool.and_false]
      · rw [decide_eq_false y]; rfl
  rw [lo]
  constructor
  · intro e i hi
    exact fa_first_no r.testBit 7 i (by omega)
  · intro h
    exact fa_is hv hb h

section ZLt
variable {nm : String} {g : zG} {gr : Bool} {d : Nat} {m : zm} {Q : Option Value → zH → Prop} {s : Sg}

theorem t_971 (hd : 40 ≤ d) (hs : sOK s) (hc : CR (qs s 6) m) (K : ∀ m, Q (some (.int 1)) (mk m)) : WP g gr (d + 17) (mL_law nm) 0 0 971 [.retAddr 0, .retAddr 0, .ref 1, .int (nI (gn (y_W s 0))), .retAddr 0, .retAddr 0, .retAddr 0, .retAddr 0, .retAddr 0, .retAddr 0, .retAddr 0, .retAddr 0, .retAddr 0, .retAddr 0, .retAddr 0, .retAddr 0] [.int (-1)] (mk m) Q := by
  have hG := hs.1 0 (by decide)
  have h7 := hG.2.1.2
  have hn := hG.2.1.1
  have h2 : 2 ^ gn (y_W s 0) < 2 ^ 31 := p2_31 (by omega)
  refine b_L_law_971 ⟨fun z => absurd rfl z, fun _ => ?_⟩
  refine y_trouble (s := qs s 6) (sOK_qs hs 6) g gr (d + 16) m _ (by omega) hc (fun m1 c1 _ => b_L_law_979 ⟨fun _ => ?_, fun z => absurd rfl z⟩)
  refine y_kind_x (s := qs s 6) (sOK_qs hs 6) (w := 0) (by decide) (a := 0) hn (b := 0) hn rfl g gr (d + 16) m1 _ (by omega) c1 (fun m2 c2 _ => b_L_law_993 ⟨fun z => absurd rfl z, fun _ => ?_⟩)
  refine y_trouble (s := qs s 5) (sOK_qs hs 5) g gr (d + 16) m2 _ (by omega) c2 (fun m3 c3 _ => b_L_law_1001 ⟨fun z => absurd rfl z, fun _ => ?_⟩)
  refine y_graph_x (s := qs s 5) (sOK_qs hs 5) (l1 := 3) 0 (Or.inr ⟨by decide, by decide⟩) g gr (d + 16) m3 _ (by omega) c3 (fun m4 c4 _ => b_L_law_1011 ⟨fun z => absurd rfl z, fun _ => ?_⟩)
  refine y_trouble (s := qs s 1) (sOK_qs hs 1) g gr (d + 16) m4 _ (by omega) c4 (fun m5 c5 _ => b_L_law_1019 ⟨fun z => absurd rfl z, fun _ => ?_⟩)
  rw [i_sh1 (by omega)]
  refine y_leave_x (s := qs s 1) (sOK_qs hs 1) (w := 0) (by decide) (Or.inr ⟨i_nn h2, nI_le (Nat.le_refl _) h2⟩) g gr (d + 16) m5 _ (by omega) c5 (fun m6 c6 _ => b_L_law_1031 ⟨fun z => absurd rfl z, fun _ => ?_⟩)
  refine y_trouble (s := qs s 2) (sOK_qs hs 2) g gr (d + 16) m6 _ (by omega) c6 (fun m7 c7 _ => b_L_law_1039 ⟨fun z => absurd rfl z, fun _ => ?_⟩)
  refine y_degree_x (s := qs s 2) (sOK_qs hs 2) (w := 0) (by decide) (v := 0) hn (l3 := 4) (Or.inr ⟨by decide, by decide⟩) g gr (d + 16) m7 _ (by omega) c7 (fun m8 c8 _ => b_L_law_1050 ⟨fun z => absurd rfl z, fun _ => ?_⟩)
  exact y_trouble (s := qs s 2) (sOK_qs hs 2) g gr (d + 16) m8 _ (by omega) c8 (fun m9 c9 _ => b_L_law_1058 ⟨fun z => absurd rfl z, fun _ => K m9⟩)

theorem t_833 (hd : 40 ≤ d) (hs : sOK s) (hc : CR (qs s 0) m) (K : ∀ m, Q (some (.int 1)) (mk m)) : WP g gr (d + 17) (mL_law nm) 0 0 833 [.retAddr 0, .retAddr 0, .ref 1, .int (nI (gn (y_W s 0))), .retAddr 0, .retAddr 0, .retAddr 0, .retAddr 0, .int (nI ((mps (y_W s 0) (y_W s 0) 0).length)), .retAddr 0, .retAddr 0, .int (nI ((S_g (srch (y_W s 0))).length)), .int (0), .retAddr 0, .retAddr 0, .retAddr 0] [] (mk m) Q := by
  have hG := hs.1 0 (by decide)
  have h7 := hG.2.1.2
  have hn := hG.2.1.1
  have hlen := sg_bd hG
  have hall := mps_len (G := (y_W s 0)) (H := (y_W s 0)) (stay := 0) h7
  have key : ∀ r i, i + r = (S_g (srch (y_W s 0))).length → ∀ m, CR (qs s 0) m → WP g gr (d + 17) (mL_law nm) 0 0 833 [.retAddr 0, .retAddr 0, .ref 1, .int (nI (gn (y_W s 0))), .retAddr 0, .retAddr 0, .retAddr 0, .retAddr 0, .int (nI ((mps (y_W s 0) (y_W s 0) 0).length)), .retAddr 0, .retAddr 0, .int (nI ((S_g (srch (y_W s 0))).length)), .int (nI (i)), .retAddr 0, .retAddr 0, .retAddr 0] [] (mk m) Q := by
    intro r
    induction r with
    | zero =>
      intro i hi m c1
      have gx : Ok g gr (d + 16) mX9_generator 0 0 [.ref 1, .int (0 : Int32), .int (nI ((S_g (srch (y_W s 0))).length)), .int (0 : Int32)] (mk m) (fun r h2 => WP g gr (d + 17) (mL_law nm) 0 0 971 [.retAddr 0, .retAddr 0, .ref 1, .int (nI (gn (y_W s 0))), .retAddr 0, .retAddr 0, .retAddr 0, .retAddr 0, .retAddr 0, .retAddr 0, .retAddr 0, .retAddr 0, .retAddr 0, .retAddr 0, .retAddr 0, .retAddr 0] (r.toList ++ []) h2 Q) := by
        refine y_generator_x (s := qs s 0) (sOK_qs hs 0) (w := 0) (by decide) (v := 0) hn (l2 := nI ((S_g (srch (y_W s 0))).length)) (Or.inr ⟨i_nn (by omega), nI_le (Nat.le_refl _) (show (S_g (srch (y_W s 0))).length < 2 ^ 31 by omega)⟩) g gr (d + 16) m _ (by omega) c1 (fun m2 c2 _ => ?_)
        exact t_971 hd hs c2 K
      refine b_L_law_833 (pk_le ((S_g (srch (y_W s 0))).length) i (fun _ => ?_) (fun z => by omega))
      refine pk_le ((S_g (srch (y_W s 0))).length) 0 (fun _ => gx) (fun z => ?_)
      refine pk_eq ((mps (y_W s 0) (y_W s 0) 0).length) 1 (fun y => ?_) (fun _ => gx)
      rw [srch_g1 hG y] at z
      exact absurd z (by decide)
    | succ r ih =>
      intro i hi m c1
      have hil : i < (S_g (srch (y_W s 0))).length := by omega
      obtain ⟨hau, -⟩ := srch_g hG _ (sg_mem hil)
      have hp := hau.1
      refine b_L_law_833 (pk_le ((S_g (srch (y_W s 0))).length) i (fun z => by omega) (fun _ => ?_))
      have vs : ∀ r2 v, v + r2 = gn (y_W s 0) → ∀ m, CR (qs s 0) m → WP g gr (d + 17) (mL_law nm) 0 0 843 [.retAddr 0, .retAddr 0, .ref 1, .int (nI (gn (y_W s 0))), .retAddr 0, .retAddr 0, .retAddr 0, .retAddr 0, .int (nI ((mps (y_W s 0) (y_W s 0) 0).length)), .retAddr 0, .retAddr 0, .int (nI ((S_g (srch (y_W s 0))).length)), .int (nI (i)), .int (nI (v)), .retAddr 0, .retAddr 0] [] (mk m) Q := by
        intro r2
        induction r2 with
        | zero =>
          intro v hv m c1
          refine b_L_law_843 (pk_le (gn (y_W s 0)) v (fun _ => ?_) (fun z => by omega))
          rw [nI_1]
          exact ih (i + 1) (by omega) m c1
        | succ r2 ih2 =>
          intro v hv m c1
          have hvn : v < gn (y_W s 0) := by omega
          have htn := hp.1 v hvn
          refine b_L_law_843 (pk_le (gn (y_W s 0)) v (fun z => by omega) (fun _ => ?_))
          refine y_generator (s := qs s 0) (sOK_qs hs 0) (w := 0) (by decide) hvn hil g gr (d + 16) m _ (by omega) c1 (fun m2 c2 _ => b_L_law_858 ?_)
          refine y_colour (s := qs s 0) (sOK_qs hs 0) (w := 0) (by decide) htn g gr (d + 16) m2 _ (by omega) c2 (fun m3 c3 _ => b_L_law_867 ?_)
          refine y_colour (s := qs s 0) (sOK_qs hs 0) (w := 0) (by decide) hvn g gr (d + 16) m3 _ (by omega) c3 (fun m4 c4 _ => b_L_law_874 ⟨fun z => absurd (congrArg nI (hau.2.1 v hvn)) z, fun _ => ?_⟩)
          refine y_orbit (s := qs s 0) (sOK_qs hs 0) (w := 0) (by decide) hvn g gr (d + 16) m4 _ (by omega) c4 (fun m5 c5 _ => b_L_law_884 ?_)
          have hr := rch_lt (L := (mps (y_W s 0) (y_W s 0) 0)) (v := v) (fun p hp => mps_lt h7 p hp v hvn)
          have hbit : (rch (mps (y_W s 0) (y_W s 0) 0) v).testBit (sent ((S_g (srch (y_W s 0))).getD i 0) v) = true := (orb_iff hG hvn).mpr ⟨_, hau, rfl⟩
          have e1 : ((nI (rch (mps (y_W s 0) (y_W s 0) 0) v) >>> (nI (sent ((S_g (srch (y_W s 0))).getD i 0) v) &&& 31)) &&& (1 : Int32)) = nI 1 := by
            rw [i_b1 (by omega) (by omega), if_pos hbit]
          refine ⟨fun _ => ?_, fun z => absurd (e1.symm.trans z) (by decide)⟩
          have ws : ∀ r3 w, w + r3 = v → ∀ m, CR (qs s 0) m → WP g gr (d + 17) (mL_law nm) 0 0 897 [.retAddr 0, .retAddr 0, .ref 1, .int (nI (gn (y_W s 0))), .retAddr 0, .retAddr 0, .retAddr 0, .retAddr 0, .int (nI ((mps (y_W s 0) (y_W s 0) 0).length)), .retAddr 0, .retAddr 0, .int (nI ((S_g (srch (y_W s 0))).length)), .int (nI (i)), .int (nI (v)), .int (nI (sent ((S_g (srch (y_W s 0))).getD i 0) v)), .int (nI (w))] [] (mk m) Q := by
            intro r3
            induction r3 with
            | zero =>
              intro w hw m c1
              refine b_L_law_897 (pk_le v w (fun _ => ?_) (fun z => by omega))
              rw [nI_1]
              exact ih2 (v + 1) (by omega) m c1
            | succ r3 ih3 =>
              intro w hw m c1
              have hwn : w < gn (y_W s 0) := by omega
              refine b_L_law_897 (pk_le v w (fun z => by omega) (fun _ => ?_))
              refine y_generator (s := qs s 0) (sOK_qs hs 0) (w := 0) (by decide) hwn hil g gr (d + 16) m _ (by omega) c1 (fun m2 c2 _ => b_L_law_917 ?_)
              refine y_kind (s := qs s 0) (sOK_qs hs 0) (w := 0) (by decide) htn (hp.1 w hwn) (fun z => by have := hp.2 v w hvn hwn z; omega) g gr (d + 16) m2 _ (by omega) c2 (fun m3 c3 _ => b_L_law_920 ?_)
              refine y_kind (s := qs s 0) (sOK_qs hs 0) (w := 0) (by decide) hvn hwn (fun z => by omega) g gr (d + 16) m3 _ (by omega) c3 (fun m4 c4 _ => b_L_law_929 ⟨fun _ => ?_, fun z => absurd (congrArg nI (hau.2.2 v w hvn hwn)) z⟩)
              rw [nI_1]
              exact ih3 (w + 1) (by omega) m4 c4
          exact ws v 0 (Nat.zero_add _) m5 c5
      exact vs (gn (y_W s 0)) 0 (Nat.zero_add _) m c1
  exact key ((S_g (srch (y_W s 0))).length) 0 (Nat.zero_add _) m hc

theorem t_771 (hd : 40 ≤ d) (hs : sOK s) (hc : CR (qs s 0) m) (K : ∀ m, Q (some (.int 1)) (mk m)) : WP g gr (d + 17) (mL_law nm) 0 0 771 [.retAddr 0, .retAddr 0, .ref 1, .int (nI (gn (y_W s 0))), .retAddr 0, .retAddr 0, .retAddr 0, .retAddr 0, .int (nI ((mps (y_W s 0) (y_W s 0) 0).length)), .retAddr 0, .retAddr 0, .retAddr 0, .retAddr 0, .retAddr 0, .retAddr 0, .retAddr 0] [.int (nI (S_n (srch (y_W s 0))))] (mk m) Q := by
  have hG := hs.1 0 (by decide)
  have h7 := hG.2.1.2
  obtain ⟨x1, x2, x3, x4⟩ := srch_cnt hG
  have tb := tn_bd hG
  have tl := tree_l hG
  refine b_L_law_771 ?_
  refine y_tree_0 (s := qs s 0) (sOK_qs hs 0) (w := 0) (by decide) g gr (d + 16) m _ (by omega) hc (fun m1 c1 _ => b_L_law_777 ⟨fun z => absurd z (nI_nlt x1 tb), fun _ => ?_⟩)
  refine y_search_1 (s := qs s 0) (sOK_qs hs 0) (w := 0) (by decide) g gr (d + 16) m1 _ (by omega) c1 (fun m2 c2 _ => b_L_law_786 ?_)
  refine y_tree_1 (s := qs s 0) (sOK_qs hs 0) (w := 0) (by decide) g gr (d + 16) m2 _ (by omega) c2 (fun m3 c3 _ => b_L_law_792 ⟨fun z => absurd z (nI_nlt x2 (show t_l (tree (y_W s 0)) < 2 ^ 31 by omega)), fun _ => ?_⟩)
  refine y_search_5 (s := qs s 0) (sOK_qs hs 0) (w := 0) (by decide) g gr (d + 16) m3 _ (by omega) c3 (fun m4 c4 _ => b_L_law_801 ⟨fun z => absurd z (nI_nlt (b := 1) x4 (sb_bd hG)), fun _ => ?_⟩)
  refine y_search_0 (s := qs s 0) (sOK_qs hs 0) (w := 0) (by decide) g gr (d + 16) m4 _ (by omega) c4 (fun m5 c5 _ => b_L_law_811 ?_)
  refine y_search_1 (s := qs s 0) (sOK_qs hs 0) (w := 0) (by decide) g gr (d + 16) m5 _ (by omega) c5 (fun m6 c6 _ => b_L_law_817 ⟨fun _ => ?_, fun z => absurd (nI_le x3 (show S_n (srch (y_W s 0)) < 2 ^ 31 by omega)) z⟩)
  exact y_search_4 (s := qs s 0) (sOK_qs hs 0) (w := 0) (by decide) g gr (d + 16) m6 _ (by omega) c6 (fun m7 c7 _ => b_L_law_828 (t_833 hd hs c7 K))

theorem t_707 (hd : 40 ≤ d) (hs : sOK s) {f : Nat → Nat} (hf : iso (y_W s 0) (y_W s 1) f) (hc : CR (qs s 0) m) (K : ∀ m, Q (some (.int 1)) (mk m)) : WP g gr (d + 17) (mL_law nm) 0 0 707 [.retAddr 0, .retAddr 0, .ref 1, .int (nI (gn (y_W s 0))), .retAddr 0, .retAddr 0, .retAddr 0, .retAddr 0, .int (nI ((mps (y_W s 0) (y_W s 0) 0).length)), .retAddr 0, .retAddr 0, .int (0), .retAddr 0, .retAddr 0, .retAddr 0, .retAddr 0] [] (mk m) Q := by
  have hG := hs.1 0 (by decide)
  have hH := hs.1 1 (by decide)
  obtain ⟨-, -, e3⟩ := mps_same hG hH hf
  have one : ∀ w, w < 2 → ∀ m, CR (qs s 0) m → (∀ m, CR (qs s 0) m → WP g gr (d + 17) (mL_law nm) 0 0 707 [.retAddr 0, .retAddr 0, .ref 1, .int (nI (gn (y_W s 0))), .retAddr 0, .retAddr 0, .retAddr 0, .retAddr 0, .int (nI ((mps (y_W s 0) (y_W s 0) 0).length)), .retAddr 0, .retAddr 0, .int (nI (w + 1)), .retAddr 0, .retAddr 0, .retAddr 0, .retAddr 0] [] (mk m) Q) → WP g gr (d + 17) (mL_law nm) 0 0 707 [.retAddr 0, .retAddr 0, .ref 1, .int (nI (gn (y_W s 0))), .retAddr 0, .retAddr 0, .retAddr 0, .retAddr 0, .int (nI ((mps (y_W s 0) (y_W s 0) 0).length)), .retAddr 0, .retAddr 0, .int (nI (w)), .retAddr 0, .retAddr 0, .retAddr 0, .retAddr 0] [] (mk m) Q := by
    intro w hw m c0 k
    have hww : w = 0 ∨ w = 1 := by omega
    have a1 : t_k (tree (y_W s w)) = (mps (y_W s 0) (y_W s 0) 0).length := by
      rcases hww with rfl | rfl
      · exact tree_like hG
      · rw [tree_like hH, e3]
    have a2 : t_n (tree (y_W s w)) = t_n (tree (y_W s 0)) := by
      rcases hww with rfl | rfl
      · rfl
      · exact (tree_n_iso hf).symm
    have a3 : ms0 (y_W s w) 0 = ms0 (y_W s 0) 0 := by
      rcases hww with rfl | rfl
      · rfl
      · rw [ms0_iso hf]
    refine b_L_law_707 (pk_le 2 w (fun z => by omega) (fun _ => ?_))
    refine y_tree_4 (s := qs s 0) (sOK_qs hs 0) (w := w) (by omega) g gr (d + 16) m _ (by omega) c0 (fun m1 c1 _ => b_L_law_720 ⟨fun z => absurd (congrArg nI a1) z, fun _ => ?_⟩)
    refine y_tree_0 (s := qs s 0) (sOK_qs hs 0) (w := w) (by omega) g gr (d + 16) m1 _ (by omega) c1 (fun m2 c2 _ => b_L_law_732 ?_)
    refine y_tree_0 (s := qs s 0) (sOK_qs hs 0) (w := 0) (by omega) g gr (d + 16) m2 _ (by omega) c2 (fun m3 c3 _ => b_L_law_738 ⟨fun z => absurd (congrArg nI a2) z, fun _ => ?_⟩)
    refine y_tree_3 (s := qs s 0) (sOK_qs hs 0) (w := w) (by omega) g gr (d + 16) m3 _ (by omega) c3 (fun m4 c4 _ => b_L_law_748 ?_)
    refine y_tree_3 (s := qs s 0) (sOK_qs hs 0) (w := 0) (by omega) g gr (d + 16) m4 _ (by omega) c4 (fun m5 c5 _ => b_L_law_754 ⟨fun _ => ?_, fun z => absurd (congrArg nI a3) z⟩)
    rw [nI_1]
    exact k m5 c5
  refine one 0 (by decide) m hc (fun m1 c1 => one 1 (by decide) m1 c1 (fun m2 c2 => ?_))
  refine b_L_law_707 (pk_le 2 2 (fun _ => ?_) (fun z => by omega))
  exact y_search_0 (s := qs s 0) (sOK_qs hs 0) (w := 0) (by decide) g gr (d + 16) m2 _ (by omega) c2 (fun m3 c3 _ => t_771 hd hs c3 K)

theorem t_661 (hd : 40 ≤ d) (hs : sOK s) {f : Nat → Nat} (hf : iso (y_W s 0) (y_W s 1) f) (hc : CR (qs s 0) m) (K : ∀ m, Q (some (.int 1)) (mk m)) : WP g gr (d + 17) (mL_law nm) 0 0 661 [.retAddr 0, .retAddr 0, .ref 1, .int (nI (gn (y_W s 0))), .retAddr 0, .retAddr 0, .retAddr 0, .retAddr 0, .int (nI ((mps (y_W s 0) (y_W s 0) 0).length)), .int (nI (stls (gn (y_W s 0)) (mps (y_W s 0) (y_W s 0) 0))), .int (nI (orbs (gn (y_W s 0)) (mps (y_W s 0) (y_W s 0) 0))), .retAddr 0, .retAddr 0, .retAddr 0, .retAddr 0, .retAddr 0] [.int (nI (orbs (gn (y_W s 0)) (mps (y_W s 0) (y_W s 0) 0)))] (mk m) Q := by
  have hG := hs.1 0 (by decide)
  have h7 := hG.2.1.2
  refine b_L_law_661 ⟨fun z => absurd rfl z, fun _ => ?_⟩
  refine y_symmetries_2 (s := qs s 0) (sOK_qs hs 0) (w := 0) (by decide) g gr (d + 16) m _ (by omega) hc (fun m1 c1 _ => b_L_law_672 ⟨fun z => absurd rfl z, fun _ => ?_⟩)
  rw [i_2n (by omega)]
  refine y_leave (s := qs s 0) (sOK_qs hs 0) (w := 0) (by decide) (k := 2 ^ gn (y_W s 0) - 1) (by have := Nat.two_pow_pos (gn (y_W s 0)); show 2 ^ gn (y_W s 0) - 1 < 2 ^ gn (y_W s 0); omega) g gr (d + 16) m1 _ (by omega) c1 (fun m2 c2 _ => b_L_law_687 ⟨fun z => absurd (congrArg nI (stay_all hG)) z, fun _ => ?_⟩)
  refine y_leave (s := qs s 0) (sOK_qs hs 0) (w := 0) (by decide) (k := 0) (Nat.two_pow_pos _) g gr (d + 16) m2 _ (by omega) c2 (fun m3 c3 _ => b_L_law_697 ⟨fun _ => t_707 hd hs hf c3 K, fun z => absurd rfl z⟩)
end ZLt
