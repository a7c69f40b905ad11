/-! the search's numbers; its generators move something -/
theorem sl_n (n : Nat) (l : Lf) (s : SS) : S_n (sl n l s) = S_n s ∧ S_l (sl n l s) = S_l s + 1 ∧ S_b s ≤ S_b (sl n l s) ∧ (S_l s = 0 → 1 ≤ S_b (sl n l s)) := by
  unfold sl
  by_cases h0 : S_l s = 0
  · rw [if_pos h0]
    exact ⟨rfl, by show 1 = _; omega, Nat.le_succ _, fun _ => Nat.succ_le_succ (Nat.zero_le _)⟩
  · rw [if_neg h0]
    split
    · exact ⟨rfl, rfl, Nat.le_refl _, fun z => absurd z h0⟩
    · split
      · exact ⟨rfl, rfl, Nat.le_succ _, fun z => absurd z h0⟩
      · split
        · exact ⟨rfl, rfl, Nat.le_refl _, fun z => absurd z h0⟩
        · exact ⟨rfl, rfl, Nat.le_refl _, fun z => absurd z h0⟩
def scn (a b : Nat) (s s' : SS) : Prop := S_n s' ≤ S_n s + a ∧ S_l s' ≤ S_l s + b ∧ (S_l s ≤ S_n s → S_l s' ≤ S_n s') ∧ ((S_l s ≠ 0 → 1 ≤ S_b s) → S_l s' ≠ 0 → 1 ≤ S_b s')
theorem scn_trans {a b a' b' : Nat} {s s' s2 : SS} (h : scn a b s s') (h2 : scn a' b' s' s2) : scn (a + a') (b + b') s s2 := by
  obtain ⟨h1, h3, h4, h5⟩ := h
  obtain ⟨g1, g3, g4, g5⟩ := h2
  exact ⟨by omega, by omega, fun z => g4 (h4 z), fun z => g5 (h5 z)⟩
theorem scn_ge {a b a' b' : Nat} {s s' : SS} (h : scn a b s s') (ha : a ≤ a') (hb : b ≤ b') : scn a' b' s s' := ⟨Nat.le_trans h.1 (by omega), Nat.le_trans h.2.1 (by omega), h.2.2⟩
theorem sw_cnt (G : Gr) : ∀ (k : Nat) (c : Nat → Nat) (q d : Nat) (ms : Nat → Nat) (apb : Nat) (s : SS), scn (nn G k c q) (lv G k c q d ms).length s (sw G k c q d ms apb s) := by
  intro k
  induction k with
  | zero => intro c q d ms apb s; exact ⟨Nat.le_refl _, Nat.le_refl _, id, id⟩
  | succ k ih =>
    intro c q d ms apb s
    rw [lv_succ]
    show scn (if _ then _ else _) _ s (if _ then _ else _)
    by_cases h : tg c (gn G) q = 0
    · rw [if_pos h, if_pos h, if_pos h]
      obtain ⟨a1, a2, a3, a4⟩ := sl_n (gn G) (mkl G c d ms) (ss_n s)
      have a1 : S_n (sl (gn G) (mkl G c d ms) (ss_n s)) = S_n s + 1 := a1
      have a2 : S_l (sl (gn G) (mkl G c d ms) (ss_n s)) = S_l s + 1 := a2
      have a3 : S_b s ≤ S_b (sl (gn G) (mkl G c d ms) (ss_n s)) := a3
      have a4 : S_l s = 0 → 1 ≤ S_b (sl (gn G) (mkl G c d ms) (ss_n s)) := a4
      refine ⟨by omega, by rw [a2]; exact Nat.le_refl _, fun z => by omega, fun z _ => ?_⟩
      by_cases y : S_l s = 0
      · exact a4 y
      · have := z y; omega
    · rw [if_neg h, if_neg h, if_neg h]
      let Lc : Nat → List Lf := fun v => lv G k (nx G c q v).1 (nx G c q v).2.1 (d + 1) (msn G c q v d ms)
      let LL : Nat → List Lf := fun v => it (fun v (x : List Lf) => if c v + 1 = tg c (gn G) q then x ++ Lc v else x) v []
      let NN : Nat → Nat := fun v => fb_sm (fun v => if c v + 1 = tg c (gn G) q then nn G k (nx G c q v).1 (nx G c q v).2.1 else 0) v
      exact it_inv (f := fun v (x : Nat × SS) => if c v + 1 = tg c (gn G) q then (if (cl (gn G) apb (S_g x.2) 7 x.1).testBit v = true then (x.1, ss_k x.2) else (x.1 ||| 2 ^ v, if cutc x.2 (msn G c q v d ms) (d + 1) = true then ss_c x.2 else sw G k (nx G c q v).1 (nx G c q v).2.1 (d + 1) (msn G c q v d ms) (apb ||| 2 ^ v) x.2)) else x) (n := gn G) (s := ((0 : Nat), ss_n s))
        (fun v x => scn (1 + NN v) (LL v).length s x.2)
        ⟨Nat.le_refl _, Nat.le_refl _, fun z => Nat.le_succ_of_le z, id⟩
        (fun v x hv hx => by
          by_cases hc : c v + 1 = tg c (gn G) q
          · have eL : LL (v + 1) = LL v ++ Lc v := by
              show (if _ then _ else _) = _
              rw [if_pos hc]
            have eN : NN (v + 1) = NN v + nn G k (nx G c q v).1 (nx G c q v).2.1 := by
              show NN v + (if _ then _ else _) = _
              rw [if_pos hc]
            rw [if_pos hc, eL, eN, List.length_append]
            have hx' := scn_ge hx (show 1 + NN v ≤ 1 + (NN v + nn G k (nx G c q v).1 (nx G c q v).2.1) by omega) (show (LL v).length ≤ (LL v).length + (Lc v).length by omega)
            split
            · exact hx'
            · dsimp only
              split
              · exact hx'
              · exact scn_ge (scn_trans hx (ih _ _ _ _ _ _)) (by omega) (Nat.le_refl _)
          · have eL : LL (v + 1) = LL v := by
              show (if _ then _ else _) = _
              rw [if_neg hc]
            have eN : NN (v + 1) = NN v := by
              show NN v + (if _ then _ else _) = _
              rw [if_neg hc]; rfl
            rw [if_neg hc, eL, eN]
            exact hx)
theorem srch_cnt {G : Gr} (hG : gWF G) : S_n (srch G) ≤ t_n (tree G) ∧ S_l (srch G) ≤ t_l (tree G) ∧ S_l (srch G) ≤ S_n (srch G) ∧ 1 ≤ S_b (srch G) := by
  obtain ⟨h1, h2, h3, h4⟩ := sw_cnt G 7 (st G).1 (st G).2.1 0 (ms0 G) 0 ss0
  have h1 : S_n (srch G) ≤ 0 + nn G 7 (st G).1 (st G).2.1 := h1
  have h2 : S_l (srch G) ≤ 0 + (lvs0 G).length := h2
  refine ⟨by rw [tree_n]; omega, by rw [tree_lvn]; omega, h3 (Nat.le_refl _), h4 (fun z => absurd rfl z) (srch_t hG).1⟩
/-- each generator moves something -/
def gnt (G : Gr) (s : SS) : Prop := ∀ g ∈ S_g s, ∃ v, v < gn G ∧ sent g v ≠ v
def fre (G : Gr) (s : SS) (L : List Lf) : Prop := S_l s ≠ 0 → ∀ l ∈ L, dfr (gn G) (l_a l) (l_a (S_f s)) ∧ dfr (gn G) (l_a l) (l_a (S_t s))
def cfm (s s' : SS) (L : List Lf) : Prop := S_l s' ≠ 0 → (S_f s' ∈ L ∨ (S_l s ≠ 0 ∧ S_f s' = S_f s)) ∧ (S_t s' ∈ L ∨ (S_l s ≠ 0 ∧ S_t s' = S_t s))
theorem dfr_sym {n : Nat} {a b : Nat → Nat} (h : dfr n a b) : dfr n b a := by obtain ⟨i, h1, h2⟩ := h; exact ⟨i, h1, fun z => h2 z.symm⟩
theorem gnum_moves {G : Gr} (hG : gWF G) {a b : Nat → Nat} (ha : pe (gn G) a) (hb : pe (gn G) b) (h : dfr (gn G) a b) : ∃ v, v < gn G ∧ sent (gnum a b (gn G)) v ≠ v := by
  obtain ⟨i, h1, h2⟩ := h
  exact ⟨b i, hb.1 i h1, by rw [sent_gnum hG.2.1.2 ha hb h1]; exact h2⟩
theorem sl_gnt {G : Gr} (hG : gWF G) {l : Lf} {s : SS} (hl : lwf G l) (hs : gin G s) (hf : fre G s [l]) (hg : gnt G s) : gnt G (sl (gn G) l s) ∧ cfm s (sl (gn G) l s) [l] := by
  have one : l ∈ [l] := List.mem_singleton.mpr rfl
  unfold sl
  by_cases h0 : S_l s = 0
  · rw [if_pos h0]
    exact ⟨hg, fun _ => ⟨Or.inl one, Or.inl one⟩⟩
  · obtain ⟨h1, h2, -⟩ := hs.2.2 h0
    obtain ⟨f1, f2⟩ := hf h0 l one
    rw [if_neg h0]
    split
    · refine ⟨fun g hg2 => ?_, fun _ => ⟨Or.inr ⟨h0, rfl⟩, Or.inr ⟨h0, rfl⟩⟩⟩
      rcases List.mem_append.mp hg2 with z | z
      · exact hg g z
      · rw [List.mem_singleton.mp z]; exact gnum_moves hG hl.1 h1.1 f1
    · split
      · exact ⟨hg, fun _ => ⟨Or.inr ⟨h0, rfl⟩, Or.inl one⟩⟩
      · split
        · refine ⟨fun g hg2 => ?_, fun _ => ⟨Or.inr ⟨h0, rfl⟩, Or.inr ⟨h0, rfl⟩⟩⟩
          rcases List.mem_append.mp hg2 with z | z
          · exact hg g z
          · rw [List.mem_singleton.mp z]; exact gnum_moves hG hl.1 h2.1 f2
        · exact ⟨hg, fun _ => ⟨Or.inr ⟨h0, rfl⟩, Or.inr ⟨h0, rfl⟩⟩⟩
theorem cfm_trans {s s' s2 : SS} {A B : List Lf} (h : cfm s s' A) (h2 : cfm s' s2 B) : cfm s s2 (A ++ B) := fun z => by
  obtain ⟨a, b⟩ := h2 z
  constructor
  · rcases a with a | ⟨a, a2⟩
    · exact Or.inl (List.mem_append_right _ a)
    · rcases (h a).1 with x | ⟨x, x2⟩
      · exact Or.inl (List.mem_append_left _ (by rw [a2]; exact x))
      · exact Or.inr ⟨x, a2.trans x2⟩
  · rcases b with a | ⟨a, a2⟩
    · exact Or.inl (List.mem_append_right _ a)
    · rcases (h a).2 with x | ⟨x, x2⟩
      · exact Or.inl (List.mem_append_left _ (by rw [a2]; exact x))
      · exact Or.inr ⟨x, a2.trans x2⟩
theorem cfm_more {s s' : SS} {A B : List Lf} (h : cfm s s' A) (hs : ∀ l ∈ A, l ∈ B) : cfm s s' B := fun z => ⟨(h z).1.imp (hs _) id, (h z).2.imp (hs _) id⟩
theorem sw_gnt {G : Gr} (hG : gWF G) : ∀ (k : Nat) (c : Nat → Nat) (q d : Nat) (ms : Nat → Nat) (apb : Nat) (s : SS), nin G c q d ms apb → gin G s → fre G s (lv G k c q d ms) → gnt G s → gnt G (sw G k c q d ms apb s) ∧ cfm s (sw G k c q d ms apb s) (lv G k c q d ms) := by
  intro k
  induction k with
  | zero => intro c q d ms apb s _ _ _ hg; exact ⟨hg, fun z => ⟨Or.inr ⟨z, rfl⟩, Or.inr ⟨z, rfl⟩⟩⟩
  | succ k ih =>
    intro c q d ms apb s hi hs hf hg
    rw [lv_succ] at hf
    rw [lv_succ]
    show gnt G (if _ then _ else _) ∧ cfm s (if _ then _ else _) _
    by_cases h : tg c (gn G) q = 0
    · rw [if_pos h] at hf
      rw [if_pos h, if_pos h]
      exact sl_gnt hG (s := ss_n s) (lwf_mkl hi h) hs hf hg
    · rw [if_neg h] at hf
      rw [if_neg h, if_neg h]
      let Lc : Nat → List Lf := fun v => lv G k (nx G c q v).1 (nx G c q v).2.1 (d + 1) (msn G c q v d ms)
      let LL : Nat → List Lf := fun v => it (fun v (x : List Lf) => if c v + 1 = tg c (gn G) q then x ++ Lc v else x) v []
      have mem : ∀ n l, l ∈ LL n ↔ ∃ v, v < n ∧ c v + 1 = tg c (gn G) q ∧ l ∈ Lc v := fun n l => it_memw (F := Lc) n
      have key := it_inv (f := fun v (x : Nat × SS) => if c v + 1 = tg c (gn G) q then (if (cl (gn G) apb (S_g x.2) 7 x.1).testBit v = true then (x.1, ss_k x.2) else (x.1 ||| 2 ^ v, if cutc x.2 (msn G c q v d ms) (d + 1) = true then ss_c x.2 else sw G k (nx G c q v).1 (nx G c q v).2.1 (d + 1) (msn G c q v d ms) (apb ||| 2 ^ v) x.2)) else x) (n := gn G) (s := ((0 : Nat), ss_n s))
        (fun v x => gin G x.2 ∧ gnt G x.2 ∧ cfm s x.2 (LL v))
        ⟨hs, hg, fun z => ⟨Or.inr ⟨z, rfl⟩, Or.inr ⟨z, rfl⟩⟩⟩
        (fun v x hv hx => by
          obtain ⟨x1, x2, x3⟩ := hx
          by_cases hc : c v + 1 = tg c (gn G) q
          · have eL : LL (v + 1) = LL v ++ Lc v := by
              show (if _ then _ else _) = _
              rw [if_pos hc]
            have x4 : cfm s x.2 (LL v ++ Lc v) := cfm_more x3 (fun l hl => List.mem_append_left _ hl)
            rw [if_pos hc, eL]
            split
            · exact ⟨x1, x2, x4⟩
            · dsimp only
              split
              · exact ⟨x1, x2, x4⟩
              · have hin := nin_nx hG hi hv h hc
                have hfre : fre G x.2 (Lc v) := fun z l hl => by
                  have old : l ∈ LL (gn G) := (mem _ _).mpr ⟨v, hv, hc, hl⟩
                  have cross : ∀ y ∈ LL v, dfr (gn G) (l_a l) (l_a y) := fun y hy => by
                    obtain ⟨u, hu, hcu, hy2⟩ := (mem _ _).mp hy
                    exact lv_cross hG hi.1 h hv (by omega) hc hcu (by omega) l hl y hy2
                  obtain ⟨a, b⟩ := x3 z
                  constructor
                  · rcases a with a | ⟨a, a2⟩
                    · exact cross _ a
                    · rw [a2]; exact (hf a l old).1
                  · rcases b with a | ⟨a, a2⟩
                    · exact cross _ a
                    · rw [a2]; exact (hf a l old).2
                obtain ⟨z1, z2⟩ := ih _ _ _ _ (apb ||| 2 ^ v) x.2 hin x1 hfre x2
                exact ⟨(sw_best hG k _ _ _ _ _ _ hin x1).1, z1, cfm_trans x3 z2⟩
          · have eL : LL (v + 1) = LL v := by
              show (if _ then _ else _) = _
              rw [if_neg hc]
            rw [if_neg hc, eL]
            exact ⟨x1, x2, x3⟩)
      exact ⟨key.2.1, key.2.2⟩
theorem srch_g {G : Gr} (hG : gWF G) : ∀ g ∈ S_g (srch G), au G (sent g) ∧ ∃ v, v < gn G ∧ sent g v ≠ v := fun g hg =>
  ⟨(srch_top hG).1.2.1 g hg, (sw_gnt hG 7 _ _ _ _ _ ss0 (nin_st hG) (gin_0 G) (fun z => absurd rfl z) (fun g hg => (by cases hg))).1 g hg⟩
/-- one symmetry alone: no generator -/
theorem srch_g1 {G : Gr} (hG : gWF G) (h : (mps G G 0).length = 1) : S_g (srch G) = [] := by
  apply List.eq_nil_iff_forall_not_mem.mpr
  intro g hg
  obtain ⟨h1, v, hv, h2⟩ := srch_g hG g hg
  have two : 2 ≤ (mps G G 0).length := by
    refine cnt_le (A := [(fun i => i), sent g]) (B := mps G G 0) (D := dfr (gn G)) ?_ (fun p p' => ∀ i, i < gn G → p' i = p i) (fun p hp => ?_) (fun p hp q hq r _ e1 e2 => dfr_no.mpr fun i hi => by rw [← e1 i hi, ← e2 i hi])
    · exact List.pairwise_cons.mpr ⟨fun p hp => by rw [List.mem_singleton.mp hp]; exact ⟨v, hv, fun z => h2 z.symm⟩, List.pairwise_singleton _ _⟩
    · rcases List.mem_cons.mp hp with z | z
      · rw [z]; exact mps_all (iso_id G) (sty_0 _ _)
      · rw [List.mem_singleton.mp z]; exact mps_all (iso_au.mp h1) (sty_0 _ _)
  omega
