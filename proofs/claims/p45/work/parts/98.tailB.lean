/-! the law behind its text: maps, orbits, names -/
section ZLt
variable {nm : String} {g : zG} {gr : Bool} {d : Nat} {m : zm} {Q : Option Value → zH → Prop} {s : Sg}
theorem CR_810 {m : zm} {k : Nat} {v : Int32} (h : CR s m) : CR s (wI m 810 k v) := by
  have q : ∀ b, b ≠ 810 → (wI m 810 k v).1 b = m.1 b := fun b hb => funext fun j => rI_n (fun z => hb z.1)
  obtain ⟨⟨a1, ⟨a2, a, a3, a4, a5⟩, a6, ⟨a7, a8, R, a9, a10⟩, a11, a12, a13, a14⟩, cs⟩ := h
  refine ⟨⟨fun w hw => pG_eq (a1 w hw) fun b x1 x2 => q b (by omega), ⟨by rw [q 22 (by decide)]; exact a2, a, a3, by rw [q 22 (by decide)]; exact a4, fun i p hp => ⟨by rw [q 23 (by decide)]; exact (a5 i p hp).1, pG_eq (a5 i p hp).2 fun b x1 x2 => q b (by omega)⟩⟩, fun i hi => ⟨by rw [q 146 (by decide)]; exact (a6 i hi).1, fun hk w hw => pG_eq ((a6 i hi).2 hk w hw) fun b x1 x2 => q b (by omega)⟩, ⟨by rw [q 5 (by decide)]; exact a7, rowL_cong a8 (q 21 (by decide)), R, a9, pG_eq a10 fun b x1 x2 => q b (by omega)⟩, by rw [q 5 (by decide)]; exact a11, fun z => by rw [q 5 (by decide)]; exact a12 z, a13, by rw [q 1 (by decide)]; exact a14⟩, CS_eq cs fun b hb => ⟨q b (by omega), rfl⟩⟩

theorem t_499 (hd : 40 ≤ d) (hs : sOK s) {f : Nat → Nat} (hf : iso (y_W s 0) (y_W s 1) f) (hc : CR (qs s 0) m) (K : ∀ m, Q (some (.int 1)) (mk m)) : WP g gr (d + 17) (mL_law nm) 0 0 499 [.retAddr 0, .retAddr 0, .ref 1, .int (nI (gn (y_W s 0))), .retAddr 0, .retAddr 0, .retAddr 0, .retAddr 0, .int (nI ((mps (y_W s 0) (y_W s 0) 0).length)), .int (0), .int (0), .int (0), .retAddr 0, .retAddr 0, .retAddr 0, .retAddr 0] [] (mk m) Q := by
  have hG := hs.1 0 (by decide)
  have hH := hs.1 1 (by decide)
  have h7 := hG.2.1.2
  obtain ⟨p, L2, eL⟩ : ∃ p L2, mps (y_W s 0) (y_W s 1) 0 = p :: L2 := by
    obtain ⟨p, hp, -⟩ := mps_all hf (sty_0 _ _)
    cases z : mps (y_W s 0) (y_W s 1) 0 with
    | nil => rw [z] at hp; cases hp
    | cons a b => exact ⟨a, b, rfl⟩
  obtain ⟨hn, hp, hcol, hknd⟩ := (mps_sound (stay := 0) (p := p) hG hH (by rw [eL]; exact List.mem_cons_self)).1
  have hall := mps_len (G := (y_W s 0)) (H := (y_W s 0)) (stay := 0) h7
  have key : ∀ r v, v + r = gn (y_W s 0) → ∀ m, CR (qs s 0) m → WP g gr (d + 17) (mL_law nm) 0 0 499 [.retAddr 0, .retAddr 0, .ref 1, .int (nI (gn (y_W s 0))), .retAddr 0, .retAddr 0, .retAddr 0, .retAddr 0, .int (nI ((mps (y_W s 0) (y_W s 0) 0).length)), .int (nI (fb_ct (fun v => rch (mps (y_W s 0) (y_W s 0) 0) v == 2 ^ v) (v))), .int (nI (fb_ct (fun v => rch (mps (y_W s 0) (y_W s 0) 0) v % 2 ^ v == 0) (v))), .int (nI (v)), .retAddr 0, .retAddr 0, .retAddr 0, .retAddr 0] [] (mk m) Q := by
    intro r
    induction r with
    | zero =>
      intro v hv m c1
      have e : v = gn (y_W s 0) := by omega
      subst e
      refine b_L_law_499 (pk_le (gn (y_W s 0)) (gn (y_W s 0)) (fun _ => ?_) (fun z => by omega))
      exact y_symmetries_1 (s := qs s 0) (sOK_qs hs 0) (w := 0) (by decide) g gr (d + 16) m _ (by omega) c1 (fun m2 c2 _ => t_661 hd hs hf c2 K)
    | succ r ih =>
      intro v hv m c1
      have hvn : v < gn (y_W s 0) := by omega
      have hpv := hp.1 v hvn
      have hr := rch_lt (L := (mps (y_W s 0) (y_W s 0) 0)) (v := v) (fun p hp => mps_lt h7 p hp v hvn)
      have hbv : (rch (mps (y_W s 0) (y_W s 0) 0) v).testBit v = true := (orb_iff hG hvn).mpr ⟨_, au_id _, rfl⟩
      refine b_L_law_499 (pk_le (gn (y_W s 0)) v (fun z => by omega) (fun _ => ?_))
      refine y_map (s := qs s 0) (sOK_qs hs 0) (w := 0) (by decide) (u := 1) (by decide) hvn eL g gr (d + 16) m _ (by omega) c1 (fun m2 c2 _ => b_L_law_513 ?_)
      refine y_colour (s := qs s 0) (sOK_qs hs 0) (w := 1) (by decide) (v := p v) (by show p v < gn (y_W s 1); omega) g gr (d + 16) m2 _ (by omega) c2 (fun m3 c3 _ => b_L_law_522 ?_)
      refine y_colour (s := qs s 0) (sOK_qs hs 0) (w := 0) (by decide) hvn g gr (d + 16) m3 _ (by omega) c3 (fun m4 c4 _ => b_L_law_529 ⟨fun _ => ?_, fun z => absurd (congrArg nI (hcol v hvn)) z⟩)
      have ws : ∀ r2 w, w + r2 = v → ∀ m, CR (qs s 0) m → WP g gr (d + 17) (mL_law nm) 0 0 537 [.retAddr 0, .retAddr 0, .ref 1, .int (nI (gn (y_W s 0))), .retAddr 0, .retAddr 0, .retAddr 0, .retAddr 0, .int (nI ((mps (y_W s 0) (y_W s 0) 0).length)), .int (nI (fb_ct (fun v => rch (mps (y_W s 0) (y_W s 0) 0) v == 2 ^ v) (v))), .int (nI (fb_ct (fun v => rch (mps (y_W s 0) (y_W s 0) 0) v % 2 ^ v == 0) (v))), .int (nI (v)), .int (nI (p v)), .int (nI (w)), .retAddr 0, .retAddr 0] [] (mk m) Q := by
        intro r2
        induction r2 with
        | zero =>
          intro w hw m c1
          refine b_L_law_537 (pk_le v w (fun _ => ?_) (fun z => by omega))
          refine y_orbit (s := qs s 0) (sOK_qs hs 0) (w := 0) (by decide) hvn g gr (d + 16) m _ (by omega) c1 (fun m2 c2 _ => b_L_law_586 ?_)
          rw [i_sh1 (by omega)]
          have hpow : 2 ^ v < 2 ^ gn (y_W s 0) := Nat.pow_lt_pow_right (by decide) hvn
          refine y_leave (s := qs s 0) (sOK_qs hs 0) (w := 0) (by decide) (k := 2 ^ v) hpow g gr (d + 16) m2 _ (by omega) c2 (fun m3 c3 _ => b_L_law_602 ?_)
          have e1 : fBits (nI (rch (mps (y_W s 0) (y_W s 0) 0) v)) * nI (mps (y_W s 0) (y_W s 0) (2 ^ v)).length = nI ((mps (y_W s 0) (y_W s 0) 0).length) := by
            rw [i_bits _ hr, pk_mul]
            congr 1
            rw [orb_stab hG hvn]
            congr 1
            refine ct_trim h7 (fun i h1 h2 => ?_)
            cases z : (rch (mps (y_W s 0) (y_W s 0) 0) v).testBit i with
            | false => rfl
            | true =>
              obtain ⟨f, hf, e⟩ := (orb_iff hG hvn).mp z
              have := hf.1.1 v hvn
              omega
          refine ⟨fun _ => ?_, fun z => absurd e1 z⟩
          rw [i_sh1 (by omega)]
          have fin := ih (v + 1) (by omega) m3 c3
          rw [fb_ct_succ, fb_ct_succ] at fin
          have e2 : nI (rch (mps (y_W s 0) (y_W s 0) 0) v) = nI (2 ^ v) ↔ rch (mps (y_W s 0) (y_W s 0) 0) v = 2 ^ v := nI_eq (by omega) (p2_31 (by omega))
          have e3 := tz_bit hr (show v < 7 by omega) hbv
          refine ⟨fun z => ?_, fun z => ?_⟩
          · rw [bq_f (fun y => z (e2.mpr y))] at fin
            refine ⟨fun y => ?_, fun y => ?_⟩
            · rw [bq_f (fun x => y (e3.mpr x))] at fin
              rw [pk_a0, pk_a0, nI_1]
              exact fin
            · rw [bq_t (e3.mp y)] at fin
              rw [pk_a0, nI_1, nI_1]
              exact fin
          · rw [bq_t (e2.mp z)] at fin
            refine ⟨fun y => ?_, fun y => ?_⟩
            · rw [bq_f (fun x => y (e3.mpr x))] at fin
              rw [pk_a0, nI_1, nI_1]
              exact fin
            · rw [bq_t (e3.mp y)] at fin
              rw [nI_1, nI_1, nI_1]
              exact fin
        | succ r2 ih2 =>
          intro w hw m c1
          have hwn : w < gn (y_W s 0) := by omega
          have hpw := hp.1 w hwn
          refine b_L_law_537 (pk_le v w (fun z => by omega) (fun _ => ?_))
          refine y_map (s := qs s 0) (sOK_qs hs 0) (w := 0) (by decide) (u := 1) (by decide) hwn eL g gr (d + 16) m _ (by omega) c1 (fun m2 c2 _ => b_L_law_556 ?_)
          refine y_kind (s := qs s 0) (sOK_qs hs 0) (w := 1) (by decide) (a := p v) (by show p v < gn (y_W s 1); omega) (b := p w) (by show p w < gn (y_W s 1); omega) (fun z => by have := hp.2 v w hvn hwn z; omega) g gr (d + 16) m2 _ (by omega) c2 (fun m3 c3 _ => b_L_law_559 ?_)
          refine y_kind (s := qs s 0) (sOK_qs hs 0) (w := 0) (by decide) hvn hwn (fun z => by omega) g gr (d + 16) m3 _ (by omega) c3 (fun m4 c4 _ => b_L_law_568 ⟨fun _ => ?_, fun z => absurd (congrArg nI (hknd v w hvn hwn)) z⟩)
          rw [nI_1]
          exact ih2 (w + 1) (by omega) m4 c4
      exact ws v 0 (Nat.zero_add _) m4 c4
  exact key (gn (y_W s 0)) 0 (Nat.zero_add _) m hc

theorem t_448 (hd : 40 ≤ d) (hs : sOK s) {f : Nat → Nat} (hf : iso (y_W s 0) (y_W s 1) f) (hc : CR (qs s 0) m) (K : ∀ m, Q (some (.int 1)) (mk m)) : WP g gr (d + 17) (mL_law nm) 0 0 448 [.retAddr 0, .retAddr 0, .ref 1, .int (nI (gn (y_W s 0))), .retAddr 0, .retAddr 0, .retAddr 0, .retAddr 0, .int (nI ((mps (y_W s 0) (y_W s 0) 0).length)), .int (0), .int (0), .retAddr 0, .retAddr 0, .retAddr 0, .retAddr 0, .retAddr 0] [.int (2)] (mk m) Q := by
  have hG := hs.1 0 (by decide)
  have hH := hs.1 1 (by decide)
  obtain ⟨e1, e2, -⟩ := mps_same hG hH hf
  refine b_L_law_448 ⟨fun z => absurd rfl z, fun _ => ?_⟩
  refine y_maps (s := qs s 0) (sOK_qs hs 0) (w := 0) (by decide) (u := 1) (by decide) g gr (d + 16) m _ (by omega) hc (fun m1 c1 _ => b_L_law_458 ⟨fun z => absurd (congrArg nI e1) z, fun _ => ?_⟩)
  refine y_maps (s := qs s 0) (sOK_qs hs 0) (w := 1) (by decide) (u := 0) (by decide) g gr (d + 16) m1 _ (by omega) c1 (fun m2 c2 _ => b_L_law_469 ⟨fun z => absurd (congrArg nI e2) z, fun _ => ?_⟩)
  refine y_changes (s := qs s 0) (sOK_qs hs 0) (w := 0) (by decide) (u := 1) (by decide) hf.1 g gr (d + 16) m2 _ (by omega) c2 (fun m3 c3 _ => b_L_law_480 ⟨fun z => absurd (congrArg nI (chg_iso hf)) z, fun _ => ?_⟩)
  exact y_told (s := qs s 0) (sOK_qs hs 0) (w := 0) (by decide) (u := 1) (by decide) hf.1 g gr (d + 16) m3 _ (by omega) c3 (fun m4 c4 _ => b_L_law_489 ⟨fun _ => t_499 hd hs hf c4 K, fun z => absurd (told_iso hf) z⟩)

theorem t_410 (hd : 40 ≤ d) (hs : sOK s) {f : Nat → Nat} (hf : iso (y_W s 0) (y_W s 1) f) (hc : CR (qs s 0) m) (K : ∀ m, Q (some (.int 1)) (mk m)) : WP g gr (d + 17) (mL_law nm) 0 0 410 [.retAddr 0, .retAddr 0, .ref 1, .int (nI (gn (y_W s 0))), .retAddr 0, .retAddr 0, .retAddr 0, .int (nI (cln (gn (y_W s 0)))), .int (nI ((mps (y_W s 0) (y_W s 0) 0).length)), .int (0), .int (0), .int (0), .retAddr 0, .retAddr 0, .retAddr 0, .retAddr 0] [] (mk m) Q := by
  have hG := hs.1 0 (by decide)
  have hH := hs.1 1 (by decide)
  have h7 := hG.2.1.2
  have h28 := (cln_tab _ h7).2
  have hnm := name_iso hG hH hf
  have ekc : kc (S_t (srch (y_W s 0))) = kc (S_t (srch (y_W s 1))) := by
    unfold kc
    exact nm_cong hnm
  have key : ∀ r k, k + r = cln (gn (y_W s 0)) → ∀ m, CR (qs s 0) m → WP g gr (d + 17) (mL_law nm) 0 0 410 [.retAddr 0, .retAddr 0, .ref 1, .int (nI (gn (y_W s 0))), .retAddr 0, .retAddr 0, .retAddr 0, .int (nI (cln (gn (y_W s 0)))), .int (nI ((mps (y_W s 0) (y_W s 0) 0).length)), .int (0), .int (0), .int (nI (k)), .retAddr 0, .retAddr 0, .retAddr 0, .retAddr 0] [] (mk m) Q := by
    intro r
    induction r with
    | zero =>
      intro k hk m c1
      refine b_L_law_410 (pk_le (cln (gn (y_W s 0))) k (fun _ => ?_) (fun z => by omega))
      exact y_less (s := qs s 0) (sOK_qs hs 0) (w := 0) (by decide) (u := 1) (by decide) hf.1 ekc g gr (d + 16) m _ (by omega) c1 (fun m2 c2 _ => t_448 hd hs hf c2 K)
    | succ r ih =>
      intro k hk m c1
      have hkn : k < cln (gn (y_W s 0)) := by omega
      refine b_L_law_410 (pk_le (cln (gn (y_W s 0))) k (fun z => by omega) (fun _ => ?_))
      refine y_name (s := qs s 0) (sOK_qs hs 0) (w := 0) (by decide) (j := k) hkn g gr (d + 16) m _ (by omega) c1 (fun m2 c2 _ => b_L_law_424 ?_)
      refine y_name (s := qs s 0) (sOK_qs hs 0) (w := 1) (by decide) (j := k) (by show k < cln (gn (y_W s 1)); rw [← hf.1]; exact hkn) g gr (d + 16) m2 _ (by omega) c2 (fun m3 c3 _ => b_L_law_431 ⟨fun _ => ?_, fun z => absurd (congrArg nI (hnm k (by omega))) z⟩)
      rw [nI_1]
      exact ih (k + 1) (by omega) m3 c3
  exact key (cln (gn (y_W s 0))) 0 (Nat.zero_add _) m hc

theorem t_377 (hd : 40 ≤ d) (hs : sOK s) {f : Nat → Nat} (hf : iso (y_W s 0) (y_W s 1) f) (hc : CR (qs s 6) m) (K : ∀ m, Q (some (.int 1)) (mk m)) : WP g gr (d + 17) (mL_law nm) 0 0 377 [.retAddr 0, .retAddr 0, .ref 1, .int (nI (gn (y_W s 0))), .retAddr 0, .retAddr 0, .retAddr 0, .retAddr 0, .retAddr 0, .retAddr 0, .retAddr 0, .retAddr 0, .retAddr 0, .retAddr 0, .retAddr 0, .retAddr 0] [.int (1)] (mk m) Q := by
  have hG := hs.1 0 (by decide)
  have h7 := hG.2.1.2
  have hn1 := hG.2.1.1
  have hsq : gn (y_W s 0) * (gn (y_W s 0) - 1) ≤ 7 * 7 := Nat.mul_le_mul h7 (by omega)
  have e7 : nI (gn (y_W s 0)) + ((nI (gn (y_W s 0)) * (nI (gn (y_W s 0)) - (1 : Int32))) / (2 : Int32)) = nI (cln (gn (y_W s 0))) := by
    rw [(cln_tab _ h7).1, show (1 : Int32) = nI 1 from rfl, pk_sub hn1, pk_mul, show (2 : Int32) = nI 2 from rfl, pk_div (by omega) (by decide) (by decide), nI_add]
  refine b_L_law_377 ⟨fun _ => ?_, fun z => absurd z (by decide)⟩
  rw [e7]
  exact y_symmetries_0 (s := qs s 6) (sOK_qs hs 6) (w := 0) (by decide) g gr (d + 16) m _ (by omega) hc (fun m2 c2 _ => b_L_law_399 (t_410 hd hs hf c2 K))

theorem t_334 (hd : 40 ≤ d) (hs : sOK s) {a : Nat} (ha : a + 1 < 2 ^ 31) (hN : g_N g < 2 ^ 31) (hD : m.1 810 1 = nI a) (hc : CR (qs s 6) m) (K : ∀ m, Q (some (.int 1)) (mk m)) : WP g gr (d + 17) (mL_law nm) 0 0 334 [.retAddr 0, .ref 810, .ref 1, .int (nI (gn (y_W s 0))), .retAddr 0, .retAddr 0, .retAddr 0, .retAddr 0, .retAddr 0, .retAddr 0, .retAddr 0, .retAddr 0, .retAddr 0, .retAddr 0, .retAddr 0, .retAddr 0] [.int (1)] (mk m) Q := by
  have hG := hs.1 0 (by decide)
  have h7 := hG.2.1.2
  have hn1 := hG.2.1.1
  refine b_L_law_334 ⟨fun _ => ?_, fun z => absurd z (by decide)⟩
  refine y_copy (s := qs s 6) (sOK_qs hs 6) (w := 0) (by decide) (u := 1) (by decide) (by decide) g gr (d + 16) m _ (by omega) hc (fun m1 c1 f1 => b_L_law_345 ⟨fun z => absurd rfl z, fun _ => ?_⟩)
  have hs1 : sOK (gs (ks (qs s 6) 1) 1 (y_W s 0)) := sOK_gs (sOK_ks (sOK_qs hs 6) (by decide)) hG
  have hD1 : m1.1 810 1 = nI a := (congrFun (f1 810 (Nat.le_refl _)).1 1).trans hD
  refine k_next (lo := 1) (hi := 2147483646) hN ha (by decide) (by decide) hD1 (fun x x1 x2 => b_L_law_358 ?_)
  have hi : gn (y_W s 0) - 1 < gn (y_W s 0) := by omega
  have hX := mxs_WF (gn (y_W s 0) - 1) x (y_W s 0) 0 hG hi
  have hc9 := mxs_c (gn (y_W s 0) - 1) x (y_W s 0) 0
  obtain ⟨f, hf⟩ := mxs_iso (gn (y_W s 0) - 1) x (y_W s 0) 0 hi
  refine y_shuffle (s := qs (gs (ks (qs s 6) 1) 1 (y_W s 0)) 0) (sOK_qs hs1 0) (w := 1) (by decide) (k := x) x1 (by omega) g gr (d + 16) _ _ (by omega) (CR_810 c1) (fun m2 c2 _ => b_L_law_361 ⟨fun z => absurd z (i_nn (show (mxs (gn (y_W s 0) - 1) x (y_W s 0) 0).2 < 2 ^ 31 by omega)), fun _ => ?_⟩)
  have hs2 : sOK (gs (ks (qs (gs (ks (qs s 6) 1) 1 (y_W s 0)) 0) 1) 1 (mxs (gn (y_W s 0) - 1) x (y_W s 0) 0).1) := sOK_gs (sOK_ks (sOK_qs hs1 0) (by decide)) hX
  refine k_lcells (s := gs (ks (qs (gs (ks (qs s 6) 1) 1 (y_W s 0)) 0) 1) 1 (mxs (gn (y_W s 0) - 1) x (y_W s 0) 0).1) (t := 0) (w := 1) (by omega) hs2 (by decide) c2 (fun m3 c3 _ => b_L_law_369 ⟨fun z => absurd z (by decide), fun _ => ?_⟩)
  refine k_lname (s := gs (ks (qs (gs (ks (qs s 6) 1) 1 (y_W s 0)) 0) 1) 1 (mxs (gn (y_W s 0) - 1) x (y_W s 0) 0).1) (t := 0) (w := 1) (by omega) hs2 (by decide) c3 (fun m4 c4 _ => ?_)
  exact t_377 (s := gs (ks (qs (gs (ks (qs s 6) 1) 1 (y_W s 0)) 0) 1) 1 (mxs (gn (y_W s 0) - 1) x (y_W s 0) 0).1) hd hs2 (f := f) hf c4 K
end ZLt
