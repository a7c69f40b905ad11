/-! tell(): a text given to the object, twenty letters at a time -/
theorem i_or8 {w c : Nat} (hw : w < 2 ^ 23) (hc : c < 256) : (nI w <<< ((8 : Int32) &&& 31)) ||| nI c = nI (w * 256 + c) := by
  rw [pk_shlN (n := w) ((8 : Int32) &&& 31) 8 (by decide) (by omega)]
  refine Int32.toBitVec_inj.mp ?_
  rw [Int32.toBitVec_or]
  refine BitVec.eq_of_toNat_eq ?_
  rw [BitVec.toNat_or]
  have e : ∀ n, n < 2 ^ 31 → (nI n).toBitVec.toNat = n := fun n hn => by
    show (BitVec.ofNat 32 n).toNat = n
    rw [BitVec.toNat_ofNat, Nat.mod_eq_of_lt (by omega)]
  rw [e _ (by omega), e _ (by omega), e _ (by omega)]
  have h1 := Nat.shiftLeft_add_eq_or_of_lt (i := 8) (b := c) hc w
  rw [Nat.shiftLeft_eq] at h1
  exact h1.symm
/-- the first r of four letters from p on, packed -/
def pkd (f : Nat → Nat) (p : Nat) : Nat → Nat
  | 0 => 0
  | r + 1 => pkd f p r * 256 + f (p + r)
theorem pkd_lt {f : Nat → Nat} (hf : ∀ i, f i < 128) (p : Nat) : pkd f p 1 < 2 ^ 7 ∧ pkd f p 2 < 2 ^ 15 ∧ pkd f p 3 < 2 ^ 23 ∧ pkd f p 4 < 2 ^ 31 := by
  have h0 := hf p
  have h1 := hf (p + 1)
  have h2 := hf (p + 2)
  have h3 := hf (p + 3)
  have e1 : pkd f p 1 = 0 * 256 + f (p + 0) := rfl
  have e2 : pkd f p 2 = pkd f p 1 * 256 + f (p + 1) := rfl
  have e3 : pkd f p 3 = pkd f p 2 * 256 + f (p + 2) := rfl
  have e4 : pkd f p 4 = pkd f p 3 * 256 + f (p + 3) := rfl
  rw [Nat.add_zero] at e1
  omega
theorem pkd_by {f : Nat → Nat} (hf : ∀ i, f i < 128) (p : Nat) : by1 (nI (pkd f p 4)) 24 = f p ∧ by1 (nI (pkd f p 4)) 16 = f (p + 1) ∧ by1 (nI (pkd f p 4)) 8 = f (p + 2) ∧ by1 (nI (pkd f p 4)) 0 = f (p + 3) := by
  have h0 := hf p
  have h1 := hf (p + 1)
  have h2 := hf (p + 2)
  have h3 := hf (p + 3)
  have e1 : pkd f p 1 = 0 * 256 + f (p + 0) := rfl
  have e2 : pkd f p 2 = pkd f p 1 * 256 + f (p + 1) := rfl
  have e3 : pkd f p 3 = pkd f p 2 * 256 + f (p + 2) := rfl
  have e4 : pkd f p 4 = pkd f p 3 * 256 + f (p + 3) := rfl
  rw [Nat.add_zero] at e1
  have hl := (pkd_lt hf p).2.2.2
  have eb : ∀ n, n < 2 ^ 32 → (nI n).toBitVec.toNat = n := fun n hn => by
    show (BitVec.ofNat 32 n).toNat = n
    rw [BitVec.toNat_ofNat, Nat.mod_eq_of_lt hn]
  have key : ∀ k, k < 32 → (((nI k).toUInt32 &&& Int32.toUInt32 31).toBitVec % 32).toNat = k := by decide +kernel
  have kb : ∀ k, k < 32 → by1 (nI (pkd f p 4)) k = pkd f p 4 / 2 ^ k % 2 ^ 8 := fun k hk => by
    unfold by1 fUshr
    rw [pk_ushrN (n := pkd f p 4) (by omega) (nI k) k (key k hk), eb _ (Nat.lt_of_le_of_lt (Nat.div_le_self _ _) (by omega))]
  refine ⟨?_, ?_, ?_, ?_⟩
  · rw [kb 24 (by decide)]; omega
  · rw [kb 16 (by decide)]; omega
  · rw [kb 8 (by decide)]; omega
  · rw [kb 0 (by decide)]; omega
theorem by4_put {f : Nat → Nat} (hf : ∀ i, f i < 128) {T : List Nat} (hT : ∀ i, i < T.length → T.getD i 0 = f i) {p : Nat} (hp : T.length = p) : ∀ i, i < (by4 T (nI (pkd f p 4))).length → (by4 T (nI (pkd f p 4))).getD i 0 = f i := by
  intro i hi
  rw [by4_len] at hi
  obtain ⟨b0, b1, b2, b3⟩ := pkd_by hf p
  unfold by4
  rw [b0, b1, b2, b3]
  have eA : T ++ [f p] ++ [f (p + 1)] ++ [f (p + 2)] ++ [f (p + 3)] = T ++ [f p, f (p + 1), f (p + 2), f (p + 3)] := by
    simp only [List.append_assoc]
    rfl
  rw [eA]
  by_cases h1 : i < T.length
  · rw [gD_app1 h1]; exact hT i h1
  · rw [gD_app2 (by omega)]
    have hc : i = p ∨ i = p + 1 ∨ i = p + 2 ∨ i = p + 3 := by omega
    rw [hp]
    rcases hc with rfl | rfl | rfl | rfl
    · rw [Nat.sub_self]; rfl
    · rw [Nat.add_sub_cancel_left]; rfl
    · rw [Nat.add_sub_cancel_left]; rfl
    · rw [Nat.add_sub_cancel_left]; rfl
section ZTell
variable {g : zG} {d pc : Nat} {ls st : List Value} {h h' : zH} {Q : Option Value → zH → Prop} {m : zm} {L : List Nat} {x : Nat}
/-- a text stays where only other cells are written -/
theorem tS_far {r : Nat} (t : tS h x r L) (hx : 811 ≤ x) (hr : 811 ≤ r) (hz : z_z h ≤ z_z h') (he : ∀ a, a = x ∨ a = r → a < z_z h → z_T h' a = z_T h a ∧ ∀ k, z_R h' a k = z_R h a k ∧ z_I h' a k = z_I h a k) : tS h' x r L := by
  obtain ⟨t1, t2, t3⟩ := t
  rcases t3 with ⟨i, hi, e1, e2, e3⟩ | ⟨s1, s2, s3, s4, s5⟩
  · exact ⟨t1, t2, Or.inl ⟨i, hi, e1, e2, e3⟩⟩
  · obtain ⟨a1, a2⟩ := he x (Or.inl rfl) s1.2.1
    obtain ⟨b1, b2⟩ := he r (Or.inr rfl) s4.2.1
    exact ⟨t1, t2, Or.inr ⟨⟨s1.1, by have := s1.2.1; omega, a1.trans s1.2.2⟩, ((a2 0).1).trans s2, ((a2 1).2).trans s3, ⟨s4.1, by have := s4.2.1; omega, b1.trans s4.2.2⟩, fun j hj => ((b2 j).2).trans (s5 j hj)⟩⟩
theorem zag_uI {a k : Nat} {v : Int32} (ag : zag h m) (ha : 811 ≤ a) : zag (z_uI h a k v) m := ⟨ag.1, fun b hb => by
  obtain ⟨f1, f2⟩ := ag.2 b hb
  refine ⟨f1, fun j => ?_⟩
  obtain ⟨q1, q2, q3⟩ := f2 j
  exact ⟨q1, q2, by rw [uI_I, if_neg (fun w => by omega)]; exact q3⟩⟩
/-- the letters that are told: blanks behind the last -/
def chT (L : List Nat) (i : Nat) : Nat := if i < L.length then L.getD i 0 else 32
theorem chT_lt (hL : ∀ c ∈ L, c < 128) (i : Nat) : chT L i < 128 := by
  unfold chT
  split
  · rename_i hi
    rw [List.getD_eq_getElem?_getD, List.getElem?_eq_getElem hi]
    exact hL _ (List.getElem_mem hi)
  · decide
abbrev WL (g : zG) (d C S pc : Nat) (ls st : List Value) (h : zH) (Q : Option Value → zH → Prop) : Prop := WP g true (d + 20) mL_tell C S pc ls st h Q

/-- the row filled -/
theorem t_row {C S p w N : Nat} (hp : p ≤ 300) (hw : 811 ≤ w) (hx : 811 ≤ x) (hxw : x ≠ w ∧ x + 1 ≠ w) (K : ∀ h, zag h m → tS h x (x + 1) L → z_isA h w 20 5 → z_z h = N → (∀ q, q < 5 → z_I h w q = nI (pkd (chT L) (p + 4 * q) 4)) → WL g d C S 73 [.ref 1, .int (nI 0), .ref x, .int (nI p), .ref w, .int (nI 20)] [] h Q) : ∀ k, k ≤ 20 → ∀ h, zag h m → tS h x (x + 1) L → z_isA h w 20 5 → z_z h = N → (∀ q, q < 5 → z_I h w q = nI (pkd (chT L) (p + 4 * q) (min 4 (k - 4 * q)))) → WL g d C S 18 [.ref 1, .int (nI 0), .ref x, .int (nI p), .ref w, .int (nI k)] [] h Q := by
  refine up_to ?_ ?_
  · intro h ag t hW hN hI
    refine r_iload dL_tell_18 rfl ?_
    refine r_bipush (nI 20) dL_tell_20 rfl ?_
    refine r_icmp_ge 73 dL_tell_22 rfl (fun _ => ?_) (fun q => absurd (Int32.le_refl _) q)
    exact K h ag t hW hN (fun q hq => by rw [hI q hq, Nat.min_eq_left (by omega)])
  · intro k hk ih h ag t hW hN hI
    have hL := t.2.1
    have hc := chT_lt t.1
    have h4 : k / 4 < 5 := by omega
    have L65 : ∀ c, c = chT L (p + k) → WL g d C S 65 [.ref 1, .int (nI 0), .ref x, .int (nI p), .ref w, .int (nI k)] [.int (nI c), .int (nI (pkd (chT L) (p + 4 * (k / 4)) (min 4 (k - 4 * (k / 4)))) <<< ((8 : Int32) &&& 31)), .int (nI (k / 4)), .ref w] h Q := fun c ec => by
      have hl := pkd_lt hc (p + 4 * (k / 4))
      have hmn : min 4 (k - 4 * (k / 4)) = k - 4 * (k / 4) := Nat.min_eq_right (by omega)
      have hpk : pkd (chT L) (p + 4 * (k / 4)) (min 4 (k - 4 * (k / 4))) < 2 ^ 23 := by
        rw [hmn]
        have hr : k - 4 * (k / 4) = 0 ∨ k - 4 * (k / 4) = 1 ∨ k - 4 * (k / 4) = 2 ∨ k - 4 * (k / 4) = 3 := by omega
        rcases hr with e | e | e | e
        · rw [e]; exact (show (0 : Nat) < 2 ^ 23 by decide)
        · rw [e]; omega
        · rw [e]; omega
        · rw [e]; omega
      have hcl : c < 256 := by have := hc (p + k); omega
      refine r_ior dL_tell_65 ?_
      rw [i_or8 hpk hcl]
      refine r_iastore dL_tell_66 hW (vp_in_nI h4 (by decide)) ?_
      rw [nI_clamp (show k / 4 < 2 ^ 31 by omega)]
      refine r_iinc 5 (nI 1) dL_tell_67 rfl rfl (Nat.le_of_ble_eq_true rfl) rfl ?_
      rw [nI_add]
      refine r_goto 18 dL_tell_70 rfl ?_
      refine ih _ (zag_uI ag hw) (tS_far t hx (by omega) (Nat.le_refl _) (fun a ha hz => ⟨rfl, fun j => ⟨rfl, by rw [uI_I, if_neg (fun u => by omega)]⟩⟩)) hW hN (fun q hq => ?_)
      · rw [uI_I]
        by_cases e : q = k / 4
        · subst e
          rw [if_pos ⟨rfl, rfl⟩, hmn, Nat.min_eq_right (by omega), show k + 1 - 4 * (k / 4) = (k - 4 * (k / 4)) + 1 by omega]
          show _ = nI (pkd (chT L) (p + 4 * (k / 4)) (k - 4 * (k / 4)) * 256 + chT L (p + 4 * (k / 4) + (k - 4 * (k / 4))))
          rw [ec, show p + 4 * (k / 4) + (k - 4 * (k / 4)) = p + k by omega]
        · rw [if_neg (fun u => e u.2), hI q hq]
          congr 2
          omega
    refine r_iload dL_tell_18 rfl ?_
    refine r_bipush (nI 20) dL_tell_20 rfl ?_
    refine r_icmp_ge 73 dL_tell_22 rfl (fun q => absurd q (nI_ge hk (by decide))) (fun _ => ?_)
    refine r_aload dL_tell_25 rfl ?_
    refine r_iload dL_tell_27 rfl ?_
    refine r_iconst (nI 4) dL_tell_29 rfl ?_
    refine r_idiv dL_tell_30 (by decide) ?_
    rw [pk_div (by omega) (by decide) (by decide)]
    refine r_aload dL_tell_31 rfl ?_
    refine r_iload dL_tell_33 rfl ?_
    refine r_iconst (nI 4) dL_tell_35 rfl ?_
    refine r_idiv dL_tell_36 (by decide) ?_
    rw [pk_div (by omega) (by decide) (by decide)]
    refine r_iaload dL_tell_37 hW (vp_in_nI h4 (by decide)) ?_
    rw [nI_clamp (show k / 4 < 2 ^ 31 by omega), hI _ h4]
    refine r_bipush 8 dL_tell_38 rfl ?_
    refine r_ishl dL_tell_40 ?_
    refine r_iload_n 3 dL_tell_41 rfl rfl ?_
    refine r_iload dL_tell_42 rfl ?_
    refine r_iadd dL_tell_44 ?_
    rw [nI_add]
    refine r_aload_n 2 dL_tell_45 rfl rfl ?_
    refine r_callSt (d := d + 19) (C1 := 0) (S1 := 0) (C2 := C) (S2 := S) t [] _ 0 dL_tell_46 lk_L_7 md_J0_length_8abf5 rfl rfl rfl (Nat.le_of_ble_eq_true rfl) (by omega) (by omega) (u_length (by omega) t ?_)
    refine r_icmp_ge 63 dL_tell_49 rfl (fun z => ?_) (fun z => ?_)
    · have hz : L.length ≤ p + k := (nI_leI (by omega) (by omega)).mp z
      refine r_bipush (nI 32) dL_tell_63 rfl ?_
      exact L65 32 (by unfold chT; rw [if_neg (by omega)])
    have hz : p + k < L.length := by
      rcases Nat.lt_or_ge (p + k) L.length with q | q
      · exact q
      · exact absurd (nI_le q (by omega)) z
    refine r_aload_n 2 dL_tell_52 rfl rfl ?_
    refine r_iload_n 3 dL_tell_53 rfl rfl ?_
    refine r_iload dL_tell_54 rfl ?_
    refine r_iadd dL_tell_56 ?_
    rw [nI_add]
    refine r_callSt (d := d + 19) (C1 := 0) (S1 := 0) (C2 := C) (S2 := S) t [.int (nI (p + k))] _ 1 dL_tell_57 lk_L_13 md_J0_charAt_5068e rfl rfl rfl (Nat.le_of_ble_eq_true rfl) (by omega) (by omega) (u_charAt (by omega) t hz ?_)
    refine r_goto 65 dL_tell_60 rfl ?_
    exact L65 _ (by unfold chT; rw [if_pos hz])

/-- tell() -/
theorem k_tell {e n : Nat} {s0 : Sg} {m0 : zm} {h0 : zH} {z0 : Nat} (he : 19 ≤ e) (hs0 : sOK s0) (hT0 : y_T s0 = []) (hTP : TP n L) (ht0 : tS h0 x (x + 1) L) (hx : 811 ≤ x) (ag0 : zag h0 m0) (hc0 : CR s0 m0) (hz0 : z_z h0 ≤ 3000) (K : ∀ h m s, sOK s → gn (y_W s 0) = n → CR (qs s 0) m → fC m0 m → zag h m → Q (some (.int (nI n))) h) : Ok g true (e + 1) mL_tell 20 200 [.ref 1, .int (nI 0), .ref x] h0 Q := by
  obtain ⟨d, rfl⟩ := dn he
  have hzt : z_top = 1000000 := rfl
  refine Ok_of (ls := [.ref 1, .int (nI 0), .ref x, .retAddr 0, .retAddr 0, .retAddr 0]) (by decide) rfl (Nat.le_of_ble_eq_true rfl) rfl ?_
  have LOOP : ∀ r, r ≤ 16 → ∀ j, j + r = 16 → ∀ h m s, sOK s → CR s m → fC m0 m → zag h m → tS h x (x + 1) L → z_z h ≤ 3000 + j → (y_T s).length = 20 * j → (∀ i, i < (y_T s).length → (y_T s).getD i 0 = chT L i) → (0 < j → 20 * (j - 1) < L.length) → WL g d (4 + r) (120 + 5 * r) 2 [.ref 1, .int (nI 0), .ref x, .int (nI (20 * j)), .retAddr 0, .retAddr 0] [] h Q := by
    intro r
    induction r with
    | zero =>
      intro _ j hj h m s hs hc hf ag t hz hT1 hT2 hjL
      have := hTP.2.2.1
      have := hjL (by omega)
      omega
    | succ r ih =>
      intro hr j hj h m s hs hc hf ag t hz hT1 hT2 hjL
      have hl3 := hTP.2.2.1
      have hcl := chT_lt t.1
      refine r_iload_n 3 dL_tell_2 rfl rfl ?_
      refine r_aload_n 2 dL_tell_3 rfl rfl ?_
      refine r_callSt (d := d + 19) (C1 := 0) (S1 := 0) (C2 := 4 + (r + 1)) (S2 := 120 + 5 * (r + 1)) t [] _ 0 dL_tell_4 lk_L_7 md_J0_length_8abf5 rfl rfl rfl (Nat.le_of_ble_eq_true rfl) (by omega) (by omega) (u_length (by omega) t ?_)
      refine r_icmp_ge 113 dL_tell_7 rfl (fun z => ?_) (fun z => ?_)
      · have hz2 : L.length ≤ 20 * j := (nI_leI (by omega) (by omega)).mp z
        have hrd : ∀ i, i < L.length → (fun i => (y_T s).getD i 0) i = L.getD i 0 := fun i hi => by
          show (y_T s).getD i 0 = _
          rw [hT2 i (by omega)]
          unfold chT
          rw [if_pos hi]
        obtain ⟨τ, hA, hn⟩ := hTP.2.2.2.2 (fun i => (y_T s).getD i 0) hrd
        obtain ⟨hG, hX⟩ := y_text hs (w := 0) (by decide) (n := L.length) (by omega) hA
        refine r_aload_n 0 dL_tell_113 rfl rfl ?_
        refine r_iload_n 1 dL_tell_114 rfl rfl ?_
        refine r_aload_n 2 dL_tell_115 rfl rfl ?_
        refine r_callSt (d := d + 19) (C1 := 0) (S1 := 0) (C2 := 4 + (r + 1)) (S2 := 120 + 5 * (r + 1)) t [] _ 0 dL_tell_116 lk_L_7 md_J0_length_8abf5 rfl rfl rfl (Nat.le_of_ble_eq_true rfl) (by omega) (by omega) (u_length (by omega) t ?_)
        refine r_callV (d := d + 19) (C1 := 0) (S1 := 0) (C2 := 4 + (r + 1)) (S2 := 120 + 5 * (r + 1)) [.int (nI 0), .int (nI L.length)] [] 2 dL_tell_119 lk_L_23 md_X9_text (ci := 8) rfl rfl (by decide) (zag_isA ag (by decide +kernel : sA 1 8 14)) rfl rfl (Nat.le_of_ble_eq_true rfl) (by omega) (by omega) ?_
        refine fr_ok (P := fun r2 m' => r2 = some (.int (nI n)) ∧ CR (qs (gs (ks (Rd s 0 (-1) 0) 0) 0 (s_G τ)) 0) m' ∧ fC m m') ag (fun v hv => ?_) (fun r2 m' hp => ?_) (fun H0 => hX _ _ _ m _ (by omega) hc (fun m' c1 c2 => ⟨m', rfl, by rw [hn], c1, c2⟩))
        · simp only [List.mem_cons, List.not_mem_nil, or_false] at hv
          rcases hv with rfl | rfl | rfl
          · exact Or.inl (by decide)
          · exact trivial
          · exact trivial
        · obtain ⟨rfl, c1, c2⟩ := hp
          refine ⟨fun v hv => by cases hv; exact trivial, ?_⟩
          refine r_iret dL_tell_122 rfl (K _ m' (gs (ks (Rd s 0 (-1) 0) 0) 0 (s_G τ)) (sOK_gs (sOK_ks (sOK_Rd hs _ _ _) (by decide)) hG) ?_ c1 (fC_trans hf c2) (zag_put ag))
          show gn (ugd (y_W (ks (Rd s 0 (-1) 0) 0)) 0 (s_G τ) 0) = n
          rw [ugd_s, hn]
      · have hz2 : 20 * j < L.length := by
          rcases Nat.lt_or_ge (20 * j) L.length with q | q
          · exact q
          · exact absurd (nI_le q (by omega)) z
        have hxz : x < z_z h ∧ x + 1 < z_z h := by
          rcases t.2.2 with ⟨i, hi, e1, e2, -⟩ | ⟨s1, -, -, s4, -⟩
          · omega
          · exact ⟨s1.2.1, s4.2.1⟩
        refine r_iconst (nI 5) dL_tell_10 rfl ?_
        refine WP_mono (C := (4 + r) + 1) (S := (120 + 5 * r) + 5) (by omega) (by omega) ?_
        refine r_newarrG (t := 20) (N := 5) dL_tell_11 rfl (Or.inl rfl) ac_int (nI_pos (by decide)) rfl (by decide) ag.1 (by omega) ?_
        refine r_astore dL_tell_13 (Nat.le_of_ble_eq_true rfl) rfl ?_
        refine r_iconst (nI 0) dL_tell_15 rfl ?_
        refine r_istore dL_tell_16 (Nat.le_of_ble_eq_true rfl) rfl ?_
        refine t_row (m := m) (p := 20 * j) (w := z_z h) (N := z_z h + 1) (by omega) ag.1 hx (by omega) (fun h1 ag1 t1 w1 n1 I1 => ?_) 0 (by decide) (hnew h 20 5) (zag_new ag) (tS_far t hx (by omega) (Nat.le_succ _) (fun a ha haz => ⟨if_neg (by omega), fun k => ⟨if_neg (by omega), if_neg (by omega)⟩⟩)) (hnew_isA ag.1) rfl (fun q hq => by rw [hnew_I, if_pos rfl, Nat.zero_sub, Nat.min_eq_right (Nat.zero_le _)]; rfl)
        refine r_aload_n 0 dL_tell_73 rfl rfl ?_
        refine r_aload dL_tell_74 rfl ?_
        refine r_iconst (nI 0) dL_tell_76 rfl ?_
        refine r_iaload dL_tell_77 w1 (vp_in_nI (n := 0) (by decide) (by decide)) ?_
        rw [show (nI 0).toNatClampNeg = 0 from rfl, I1 0 (by decide)]
        refine r_aload dL_tell_78 rfl ?_
        refine r_iconst (nI 1) dL_tell_80 rfl ?_
        refine r_iaload dL_tell_81 w1 (vp_in_nI (n := 1) (by decide) (by decide)) ?_
        rw [show (nI 1).toNatClampNeg = 1 from rfl, I1 1 (by decide)]
        refine r_aload dL_tell_82 rfl ?_
        refine r_iconst (nI 2) dL_tell_84 rfl ?_
        refine r_iaload dL_tell_85 w1 (vp_in_nI (n := 2) (by decide) (by decide)) ?_
        rw [show (nI 2).toNatClampNeg = 2 from rfl, I1 2 (by decide)]
        refine r_aload dL_tell_86 rfl ?_
        refine r_iconst (nI 3) dL_tell_88 rfl ?_
        refine r_iaload dL_tell_89 w1 (vp_in_nI (n := 3) (by decide) (by decide)) ?_
        rw [show (nI 3).toNatClampNeg = 3 from rfl, I1 3 (by decide)]
        refine r_aload dL_tell_90 rfl ?_
        refine r_iconst (nI 4) dL_tell_92 rfl ?_
        refine r_iaload dL_tell_93 w1 (vp_in_nI (n := 4) (by decide) (by decide)) ?_
        rw [show (nI 4).toNatClampNeg = 4 from rfl, I1 4 (by decide)]
        obtain ⟨V0, eV0⟩ : ∃ V, V = nI (pkd (chT L) (20 * j + 4 * 0) 4) := ⟨_, rfl⟩
        obtain ⟨V1, eV1⟩ : ∃ V, V = nI (pkd (chT L) (20 * j + 4 * 1) 4) := ⟨_, rfl⟩
        obtain ⟨V2, eV2⟩ : ∃ V, V = nI (pkd (chT L) (20 * j + 4 * 2) 4) := ⟨_, rfl⟩
        obtain ⟨V3, eV3⟩ : ∃ V, V = nI (pkd (chT L) (20 * j + 4 * 3) 4) := ⟨_, rfl⟩
        obtain ⟨V4, eV4⟩ : ∃ V, V = nI (pkd (chT L) (20 * j + 4 * 4) 4) := ⟨_, rfl⟩
        rw [← eV0, ← eV1, ← eV2, ← eV3, ← eV4]
        have T1 := by4_put hcl hT2 (p := 20 * j + 4 * 0) (by omega)
        rw [← eV0] at T1
        have T2 := by4_put hcl T1 (p := 20 * j + 4 * 1) (by rw [by4_len]; omega)
        rw [← eV1] at T2
        have T3 := by4_put hcl T2 (p := 20 * j + 4 * 2) (by rw [by4_len, by4_len]; omega)
        rw [← eV2] at T3
        have T4 := by4_put hcl T3 (p := 20 * j + 4 * 3) (by rw [by4_len, by4_len, by4_len]; omega)
        rw [← eV3] at T4
        have T5 := by4_put hcl T4 (p := 20 * j + 4 * 4) (by rw [by4_len, by4_len, by4_len, by4_len]; omega)
        rw [← eV4] at T5
        have hX := y_feed hs V0 V1 V2 V3 V4 (by omega)
        have hlen : (by4 (by4 (by4 (by4 (by4 (y_T s) V0) V1) V2) V3) V4).length = 20 * (j + 1) := by simp only [by4_len]; omega
        refine r_callV (d := d + 19) (C1 := 0) (S1 := 0) (C2 := 4 + r) (S2 := 120 + 5 * r) [.int V0, .int V1, .int V2, .int V3, .int V4] [] 5 dL_tell_94 lk_L_17 md_X9_feed (ci := 8) rfl rfl (by decide) (zag_isA ag1 (by decide +kernel : sA 1 8 14)) rfl rfl (Nat.le_of_ble_eq_true rfl) (by omega) (by omega) ?_
        refine fr_ok (P := fun r2 m' => r2 = some (.int (nI ((y_T s).length + 20))) ∧ CR (Ts s (by4 (by4 (by4 (by4 (by4 (y_T s) V0) V1) V2) V3) V4)) m' ∧ fC m m') ag1 (fun v hv => ?_) (fun r2 m' hp => ?_) (fun H0 => hX _ _ _ m _ (by omega) hc (fun m' c1 c2 => ⟨m', rfl, rfl, c1, c2⟩))
        · simp only [List.mem_cons, List.not_mem_nil, or_false] at hv
          rcases hv with rfl | rfl | rfl | rfl | rfl | rfl
          · exact Or.inl (by decide)
          · exact trivial
          · exact trivial
          · exact trivial
          · exact trivial
          · exact trivial
        · obtain ⟨rfl, c1, c2⟩ := hp
          refine ⟨fun v hv => by cases hv; exact trivial, ?_⟩
          refine r_iload_n 3 dL_tell_97 rfl rfl ?_
          refine r_bipush (nI 20) dL_tell_98 rfl ?_
          refine r_iadd dL_tell_100 ?_
          rw [nI_add, hT1]
          refine r_icmp_eq 107 dL_tell_101 rfl (fun _ => ?_) (fun q => absurd rfl q)
          refine r_iinc 3 (nI 20) dL_tell_107 rfl rfl (Nat.le_of_ble_eq_true rfl) rfl ?_
          rw [nI_add]
          refine r_goto 2 dL_tell_110 rfl ?_
          refine r_forget [true, true, true, true, false, false] rfl ?_
          exact ih (by omega) (j + 1) (by omega) (hput h1 m') m' _ (sOK_T hs (by omega) (by4_lt (by4_lt (by4_lt (by4_lt (by4_lt hs.2.2.2.2.2)))))) c1 (fC_trans hf c2) (zag_put ag1) (tS_far t1 hx (by omega) (Nat.le_refl _) (fun a ha haz => ⟨rfl, fun k => ⟨rfl, hput_I (by omega)⟩⟩)) (by rw [hput_z]; omega) hlen T5 (fun _ => by rw [Nat.add_sub_cancel]; exact hz2)
  refine r_iconst (nI 0) dL_tell_0 rfl ?_
  refine r_istore_n 3 dL_tell_1 rfl (Nat.le_of_ble_eq_true rfl) rfl ?_
  exact LOOP 16 (Nat.le_refl _) 0 rfl h0 m0 s0 hs0 hc0 (fC_refl _) ag0 ht0 hz0 (by rw [hT0]; rfl) (by rw [hT0]; exact fun i hi => absurd hi (Nat.not_lt_zero _)) (fun q => absurd q (by decide))

end ZTell
