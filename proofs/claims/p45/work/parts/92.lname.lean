/-! the law's own methods: the name by its places -/
theorem gd_l {A B : List Nat} {i : Nat} (h : i < A.length) : (A ++ B).getD i 0 = A.getD i 0 := by
  simp only [List.getD_eq_getElem?_getD]
  rw [List.getElem?_append_left h]
theorem gd_r {A B : List Nat} {i : Nat} : (A ++ B).getD (A.length + i) 0 = B.getD i 0 := by
  simp only [List.getD_eq_getElem?_getD]
  rw [List.getElem?_append_right (by omega), show A.length + i - A.length = i by omega]
theorem cdA_at {G : Gr} {a : Nat → Nat} : ∀ k i, i < k → (cdA G a k).getD i 0 = gc G (a i) := by
  intro k
  induction k with
  | zero => intro i hi; omega
  | succ k ih =>
    intro i hi
    show (cdA G a k ++ [gc G (a k)]).getD i 0 = _
    by_cases z : i < k
    · rw [gd_l (by rw [cdA_len]; exact z)]; exact ih i z
    · have e : i = k := by omega
      subst e
      have := gd_r (A := cdA G a i) (B := [gc G (a i)]) (i := 0)
      rw [cdA_len] at this
      exact this
theorem cdR_at {G : Gr} {a : Nat → Nat} {i : Nat} : ∀ k d, d < k → (cdR G a i k).getD d 0 = gk G (a i) (a (i + 1 + d)) := by
  intro k
  induction k with
  | zero => intro d hd; omega
  | succ k ih =>
    intro d hd
    show (cdR G a i k ++ [gk G (a i) (a (i + 1 + k))]).getD d 0 = _
    by_cases z : d < k
    · rw [gd_l (by rw [cdR_len]; exact z)]; exact ih d z
    · have e : d = k := by omega
      subst e
      have := gd_r (A := cdR G a i d) (B := [gk G (a i) (a (i + 1 + d))]) (i := 0)
      rw [cdR_len] at this
      exact this
theorem sm_part {f : Nat → Nat} {i : Nat} : ∀ k, i < k → fb_sm f i + f i ≤ fb_sm f k := by
  intro k
  induction k with
  | zero => intro h; omega
  | succ k ih =>
    intro h
    rw [fb_sm_succ]
    by_cases z : i < k
    · have := ih z; omega
    · have e : i = k := by omega
      subst e; exact Nat.le_refl _
theorem cdB_at {G : Gr} {a : Nat → Nat} : ∀ k i d, i < k → d < gn G - 1 - i → (cdB G a k).getD (fb_sm (fun i => gn G - 1 - i) i + d) 0 = gk G (a i) (a (i + 1 + d)) := by
  intro k
  induction k with
  | zero => intro i d hi; omega
  | succ k ih =>
    intro i d hi hd
    show (cdB G a k ++ cdR G a k (gn G - 1 - k)).getD _ 0 = _
    by_cases z : i < k
    · have h1 := sm_part (f := fun i => gn G - 1 - i) k z
      have h1 : fb_sm (fun i => gn G - 1 - i) i + (gn G - 1 - i) ≤ fb_sm (fun i => gn G - 1 - i) k := h1
      rw [gd_l (by rw [cdB_len]; omega)]
      exact ih i d z hd
    · have e : i = k := by omega
      subst e
      have := gd_r (A := cdB G a i) (B := cdR G a i (gn G - 1 - i)) (i := d)
      rw [cdB_len] at this
      rw [this]
      exact cdR_at _ d hd
theorem cd_c {G : Gr} {a : Nat → Nat} {i : Nat} (hi : i < gn G) : cd G a i = gc G (a i) := by
  unfold cd cdl
  rw [gd_l (by rw [cdA_len]; exact hi)]
  exact cdA_at _ i hi
theorem cd_k {G : Gr} {a : Nat → Nat} {i d : Nat} (hi : i < gn G) (hd : d < gn G - 1 - i) : cd G a (gn G + (fb_sm (fun i => gn G - 1 - i) i + d)) = gk G (a i) (a (i + 1 + d)) := by
  unfold cd cdl
  have := gd_r (A := cdA G a (gn G)) (B := cdB G a (gn G)) (i := fb_sm (fun i => gn G - 1 - i) i + d)
  rw [cdA_len] at this
  rw [this]
  exact cdB_at _ i d hi hd
theorem usd_add {a : Nat → Nat} {c n : Nat} (hc : a c < n) : nI (bm (usd a c) n) ||| nI (2 ^ a c) = nI (bm (usd a (c + 1)) n) := by
  rw [fa_or, bm_add hc]
  congr 1
  refine bm_cong fun v _ => ?_
  rw [Bool.eq_iff_iff, Bool.or_eq_true, usd_iff, usd_iff, beq_iff_eq]
  constructor
  · rintro (⟨u, h1, h2⟩ | h)
    · exact ⟨u, by omega, h2⟩
    · exact ⟨c, by omega, h.symm⟩
  · rintro ⟨u, h1, h2⟩
    by_cases z : u = c
    · subst z; exact Or.inr h2.symm
    · exact Or.inl ⟨u, by omega, h2⟩
theorem usd_all {a : Nat → Nat} {n : Nat} (h : pe n a) : bm (usd a n) n = 2 ^ n - 1 := by
  rw [← bm_all]
  refine bm_cong fun v hv => ?_
  obtain ⟨i, hi, e⟩ := pe_onto h hv
  exact usd_iff.mpr ⟨i, hi, e⟩
theorem usd_0 (a : Nat → Nat) (n : Nat) : bm (usd a 0) n = 0 := bm_0 fun i _ => by
  cases z : usd a 0 i with
  | false => rfl
  | true => obtain ⟨u, h, _⟩ := usd_iff.mp z; omega
section ZLs
variable {g : zG} {gr : Bool} {e : Nat} {m : zm} {Q : Option Value → zH → Prop} {s : Sg}
theorem k_lname {t : Int32} {w : Nat} (he : 40 ≤ e) (hs : sOK s) (hw : w < 3) (hc : CR (qs s t) m) (K : ∀ m', CR (qs s 6) m' → fC m m' → Q (some (.int 1)) (mk m')) : Ok g gr e mL_name 0 0 [.ref 1, .int (nI w)] (mk m) Q := by
  obtain ⟨d, rfl⟩ := dn (show 16 ≤ e by omega)
  have hG := hs.1 w hw
  have h7 := hG.2.1.2
  obtain ⟨-, t1, -⟩ := srch_t hG
  obtain ⟨pa, ca⟩ := lvs0_wf hG t1
  generalize hA : l_a (S_t (srch (y_W s w))) = a at pa ca
  have hcl : cln (gn (y_W s w)) = gn (y_W s w) + fb_sm (fun i => gn (y_W s w) - 1 - i) (gn (y_W s w)) := rfl
  have hc28 := (cln_tab _ h7).2
  have hlc : ∀ j, l_c (S_t (srch (y_W s w))) j = cd (y_W s w) a j := fun j => congrFun ca j
  have hpl : ∀ c, c < gn (y_W s w) → ∀ (m1 : zm) (Q2 : Option Value → zH → Prop), CR (qs s 0) m1 → (∀ m2, CR (qs s 0) m2 → fC m1 m2 → Q2 (some (.int (nI (a c)))) (mk m2)) → Ok g gr (d + 15) mX9_place 0 0 [.ref 1, .int (nI w), .int (nI c)] (mk m1) Q2 := fun c hcn m1 Q2 c1 k => by
    have := y_place (s := qs s 0) (sOK_qs hs 0) hw (j := c) hcn g gr (d + 15) m1 Q2 (by omega) c1
    exact this (fun m2 c2 f2 => by
      have e1 : l_a (S_t (srch (y_W (qs s 0) w))) c = a c := congrFun hA c
      rw [e1]; exact k m2 c2 f2)
  have hnm : ∀ j, j < cln (gn (y_W s w)) → ∀ (m1 : zm) (Q2 : Option Value → zH → Prop), CR (qs s 0) m1 → (∀ m2, CR (qs s 0) m2 → fC m1 m2 → Q2 (some (.int (nI (cd (y_W s w) a j)))) (mk m2)) → Ok g gr (d + 15) mX9_name 0 0 [.ref 1, .int (nI w), .int (nI j)] (mk m1) Q2 := fun j hj m1 Q2 c1 k => by
    have := y_name (s := qs s 0) (sOK_qs hs 0) hw (j := j) hj g gr (d + 15) m1 Q2 (by omega) c1
    exact this (fun m2 c2 f2 => by
      have e1 : l_c (S_t (srch (y_W (qs s 0) w))) j = cd (y_W s w) a j := hlc j
      rw [e1]; exact k m2 c2 f2)
  have outer : ∀ r c, c + r = gn (y_W s w) → ∀ m1, CR (qs s 0) m1 → fC m m1 → WP g gr (d + 16) mL_name 0 0 15 [.ref 1, .int (nI w), .int (nI (gn (y_W s w))), .int (nI (gn (y_W s w) + fb_sm (fun i => gn (y_W s w) - 1 - i) c)), .int (nI (bm (usd a c) (gn (y_W s w)))), .int (nI c), .retAddr 0] [] (mk m1) Q := by
    intro r
    induction r with
    | zero =>
      intro c hcr m1 c1 f1
      have e : c = gn (y_W s w) := by omega
      refine b_L_name_15 (pk_le (gn (y_W s w)) c (fun _ => ?_) (fun z => by omega))
      rw [e, usd_all pa, i_2n (by omega)]
      refine ⟨fun z => absurd rfl z, fun _ => ?_⟩
      refine y_name_x (s := qs s 0) (sOK_qs hs 0) hw (Or.inr ⟨i_nn (by omega), nI_le (by show cln (gn (y_W s w)) ≤ _; rw [hcl]; exact Nat.le_refl _) (by omega)⟩) g gr (d + 15) m1 _ (by omega) c1 (fun m2 c2 f2 => b_L_name_132 ⟨fun z => absurd rfl z, fun _ => ?_⟩)
      exact y_trouble (s := qs s 6) (sOK_qs hs 6) g gr (d + 15) m2 _ (by omega) c2 (fun m3 c3 f3 => b_L_name_140 ⟨fun z => absurd rfl z, fun _ => K m3 c3 (fC_trans f1 (fC_trans f2 f3))⟩)
    | succ r ih =>
      intro c hcr m1 c1 f1
      have hcn : c < gn (y_W s w) := by omega
      have hac := pa.1 c hcn
      have inner : ∀ q i, i + q = gn (y_W s w) → c < i → ∀ m1, CR (qs s 0) m1 → fC m m1 → WP g gr (d + 16) mL_name 0 0 65 [.ref 1, .int (nI w), .int (nI (gn (y_W s w))), .int (nI (gn (y_W s w) + (fb_sm (fun i => gn (y_W s w) - 1 - i) c + (i - c - 1)))), .int (nI (bm (usd a (c + 1)) (gn (y_W s w)))), .int (nI c), .int (nI i)] [] (mk m1) Q := by
        intro q
        induction q with
        | zero =>
          intro i hi hci m1 c1 f1
          refine b_L_name_65 (pk_le (gn (y_W s w)) i (fun _ => ?_) (fun z => by omega))
          have := ih (c + 1) (by omega) m1 c1 f1
          rw [fb_sm_succ, show fb_sm (fun i => gn (y_W s w) - 1 - i) c + (gn (y_W s w) - 1 - c) = fb_sm (fun i => gn (y_W s w) - 1 - i) c + (i - c - 1) by omega] at this
          rw [nI_1]
          exact this
        | succ q ihq =>
          intro i hi hci m1 c1 f1
          have hin : i < gn (y_W s w) := by omega
          have hjn : gn (y_W s w) + (fb_sm (fun i => gn (y_W s w) - 1 - i) c + (i - c - 1)) < cln (gn (y_W s w)) := by
            have h1 := sm_part (f := fun i => gn (y_W s w) - 1 - i) (gn (y_W s w)) hcn
            have h1 : fb_sm (fun i => gn (y_W s w) - 1 - i) c + (gn (y_W s w) - 1 - c) ≤ fb_sm (fun i => gn (y_W s w) - 1 - i) (gn (y_W s w)) := h1
            omega
          have ecd := cd_k (G := y_W s w) (a := a) (i := c) (d := i - c - 1) hcn (by omega)
          rw [show c + 1 + (i - c - 1) = i by omega] at ecd
          refine b_L_name_65 (pk_le (gn (y_W s w)) i (fun z => by omega) (fun _ => ?_))
          refine hnm _ hjn m1 _ c1 (fun m2 c2 f2 => b_L_name_77 ?_)
          refine hpl c hcn m2 _ c2 (fun m3 c3 f3 => b_L_name_86 ?_)
          refine hpl i hin m3 _ c3 (fun m4 c4 f4 => b_L_name_93 ?_)
          refine y_kind (s := qs s 0) (sOK_qs hs 0) hw (pa.1 c hcn) (pa.1 i hin) (fun z => by have := pa.2 c i hcn hin z; omega) g gr (d + 15) m4 _ (by omega) c4 (fun m5 c5 f5 => b_L_name_96 ?_)
          refine ⟨fun _ => ?_, fun z => absurd (congrArg nI ecd) z⟩
          have := ihq (i + 1) (by omega) (by omega) m5 c5 (fC_trans f1 (fC_trans f2 (fC_trans f3 (fC_trans f4 f5))))
          rw [show i + 1 - c - 1 = i - c - 1 + 1 by omega] at this
          rw [nI_1, nI_1]
          exact this
      refine b_L_name_15 (pk_le (gn (y_W s w)) c (fun z => by omega) (fun _ => ?_))
      refine hpl c hcn m1 _ c1 (fun m2 c2 f2 => b_L_name_31 ?_)
      rw [i_sh1 (by omega), usd_add hac]
      refine hnm c (by omega) m2 _ c2 (fun m3 c3 f3 => b_L_name_42 ?_)
      refine hpl c hcn m3 _ c3 (fun m4 c4 f4 => b_L_name_51 ?_)
      refine y_colour (s := qs s 0) (sOK_qs hs 0) hw hac g gr (d + 15) m4 _ (by omega) c4 (fun m5 c5 f5 => b_L_name_54 ?_)
      refine ⟨fun _ => ?_, fun z => absurd (congrArg nI (cd_c (G := y_W s w) (a := a) hcn)) z⟩
      have := inner r (c + 1) (by omega) (by omega) m5 c5 (fC_trans f1 (fC_trans f2 (fC_trans f3 (fC_trans f4 f5))))
      rw [show c + 1 - c - 1 = 0 by omega, Nat.add_zero] at this
      rw [nI_1]
      exact this
  refine b_L_name_0 (y_graph_n (sOK_qs hs t) hw g gr (d + 15) m _ (by omega) hc (fun m2 c2 f2 => b_L_name_6 ?_))
  have := outer (gn (y_W s w)) 0 (Nat.zero_add _) m2 c2 f2
  rw [usd_0] at this
  exact this
end ZLs
