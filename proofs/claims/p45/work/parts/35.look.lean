/-! the classes Search and Tree: what they found stays till they look at an unlike graph -/
def seen6 (m : zm) (o : Nat) : Prop := m.1 o 8 = 0 ∨ (m.1 o 8 = 1 ∧ ∃ G, gWF G ∧ pG m (o + 1) G ∧ pSS m o (gn G) (srch G))
def seen7 (m : zm) (o : Nat) : Prop := m.1 o 8 = 0 ∨ (m.1 o 8 = 1 ∧ ∃ G, gWF G ∧ pG m (o + 1) G ∧ pTS m o (gn G) (tree G) ∧ m.1 (o + 22) 0 = nI (ms0 G 0))
theorem sft_0 (G : Gr) : sft G ss0 := ⟨fun h => absurd rfl h, fun g hg => (by cases hg)⟩
theorem sgo_0 : sgo ss0 := ⟨fun _ => rfl, fun h => absurd rfl h⟩
theorem tft_0 (n : Nat) : tft n ts0 := ⟨fun h => absurd rfl h, Nat.zero_le _⟩
/-- the best leaf's first mark is the root's -/
theorem tree_m0 {G : Gr} (hG : gWF G) : l_m (t_t (tree G)) 0 = ms0 G 0 := by
  have hi := nod_0 hG
  have e2 := tob_tw G 7 (st G).1 (st G).2.1 0 (ms0 G) ts0
  have h2 := (best_same hG).2.1
  have e2 : tob (tree G) = fLm none (lv G 7 (st G).1 (st G).2.1 0 (ms0 G)) := e2
  unfold tob at e2
  rw [if_neg h2] at e2
  have mem : ∀ (L : List Lf) (o : Option Lf) (b : Lf), fLm o L = some b → b ∈ L ∨ o = some b := by
    intro L
    induction L with
    | nil => intro o b h; exact Or.inr h
    | cons x L ih =>
      intro o b h
      rcases ih (fL1 o x) b h with z | z
      · exact Or.inl (List.mem_cons_of_mem _ z)
      · cases o with
        | none => cases z; exact Or.inl List.mem_cons_self
        | some b0 =>
          have z : (if ky x < ky b0 then some x else some b0) = some b := z
          by_cases w : ky x < ky b0
          · rw [if_pos w] at z; cases z; exact Or.inl List.mem_cons_self
          · rw [if_neg w] at z; exact Or.inr z
  rcases mem _ _ _ e2.symm with z | z
  · exact lv_pre 7 _ _ 0 _ _ z 0 (Nat.le_refl _)
  · cases z
section ZLo
variable {g : zG} {gr : Bool} {e : Nat} {m : zm} {Q : Option Value → zH → Prop}
theorem k_look6 {o x : Nat} {G : Gr} (ho : sX6 o) (hx : sX1 x) (he : 13 ≤ e) (hG : gWF G) (hp : pG m x G) (hd : x + 15 ≤ o ∨ o + 65 ≤ x) (hs : seen6 m o) (H : ∀ m', m'.1 o 8 = 1 → pG m' (o + 1) G → pSS m' o (gn G) (srch G) → fz o (o + 65) m m' → Q none (mk m')) : Ok g gr e mX8_look 0 0 [.ref o, .ref x] (mk m) Q := by
  obtain ⟨d, rfl⟩ := dn he
  have h7 := hG.2.1.2
  have x1 : sX1 (o + 1) := sX6_s0 ho
  have x25 : sX0 (o + 25) := sX6_c ho (show 0 < 7 by decide)
  -- it looks anew
  have anew : ∀ m1, m1 = wI m o 8 (1 : Int32) → Ok g gr (d + 12) mX1_take 0 0 [.ref (o + 1), .ref x] (mk m1) (fun r h2 => WP g gr (d + 13) mX8_look 0 0 32 [.ref o, .retAddr 0] (r.toList ++ []) h2 Q) := by
    intro m1 e1
    have f1 : fz o (o + 65) m m1 := fz_eI e1
    refine k_take x1 hx (by omega) (by omega) (pG_fz hp f1 (by omega)) (fun m2 a1 a2 => ?_)
    refine b_X8_look_X6_32 ho ?_
    intro m3 e3 m4 e4 m5 e5 m6 e6 m7 e7 m8 e8
    have f8 : fz o (o + 1) m2 m8 := fz_trans (fz_eI e3) (fz_trans (fz_eI e4) (fz_trans (fz_eI e5) (fz_trans (fz_eI e6) (fz_trans (fz_eI e7) (fz_eI e8)))))
    have r8 : m8.1 o 8 = 1 := by rw [e8, rI_n (by omega), e7, rI_n (by omega), e6, rI_n (by omega), e5, rI_n (by omega), e4, rI_n (by omega), e3, rI_n (by omega), fz_1 a2 (by omega), e1, rI_s]
    have hss : pSS m8 o (gn G) ss0 := by
      refine ⟨?_, ?_, ?_, ?_, ?_, ?_, fun i hi => absurd hi (Nat.not_lt_zero _), fun z => absurd rfl z⟩
      · rw [e8, rI_n (by omega), e7, rI_n (by omega), e6, rI_n (by omega), e5, rI_n (by omega), e4, rI_n (by omega), e3, rI_s]; rfl
      · rw [e8, rI_n (by omega), e7, rI_n (by omega), e6, rI_n (by omega), e5, rI_n (by omega), e4, rI_s]; rfl
      · rw [e8, rI_n (by omega), e7, rI_n (by omega), e6, rI_n (by omega), e5, rI_s]; rfl
      · rw [e8, rI_n (by omega), e7, rI_n (by omega), e6, rI_s]; rfl
      · rw [e8, rI_s]; rfl
      · rw [e8, rI_n (by omega), e7, rI_s]; rfl
    have p8 := pG_fz a1 f8 (by omega)
    refine k_begin x25 x1 (by omega) hG p8 (by omega) (fun m9 b1 b2 b3 => ?_)
    refine b_X8_look_X6_69 ho ?_
    refine k_mark x25 (by omega) h7 b1 (by have := cwf_le (st_cwf hG); omega) b2 ?_
    refine b_X8_look_X6_86 ho (sX2_s2 (sX6_17 ho)) ⟨pk_in 0 7 (by decide), ?_⟩
    intro m10 e10
    have e10 : m10 = wI m9 (o + 18) 0 (nI (mrk (st G).1 (gn G) (st G).2.1 (st G).2.2)) := e10
    have f10 : fz (o + 17) (o + 21) m9 m10 := fz_eI e10
    have hall : fz o (o + 65) m m10 := fz_trans f1 (fz_trans (fz_mono a2) (fz_trans (fz_mono f8) (fz_trans (fz_mono b3) (fz_mono f10))))
    refine k_come6 ho hG 7 (d + 12) _ _ 0 (ms0 G) 0 ss0 m10 _ (by omega) (by omega) (nod_0 hG) (by decide) (sft_0 G) sgo_0 (srch_l hG) (pG_fz (pG_fz p8 b3 (by omega)) f10 (by omega)) (pC_fz b1 f10 (by omega)) (fun i hi => ?_) (pSS_fz (pSS_fz hss b3 (by omega)) f10 (by omega)) (fun m11 c1 c2 => ?_)
    · have : i = 0 := by omega
      subst this
      rw [e10, rI_s]; rfl
    · refine b_X8_look_X6_93 (H m11 ?_ (pG_fK (pG_fz (pG_fz p8 b3 (by omega)) f10 (by omega)) c2) c1 (fz_trans hall (fun a ha => c2.1 a (by omega))))
      rw [c2.2.2, fz_1 f10 (by omega), fz_1 b3 (by omega)]; exact r8
  rcases hs with z | ⟨z, G0, g1, g2, g3⟩
  · exact b_X8_look_X6_0 ho hx ⟨fun _ => anew, fun w => absurd z w⟩
  · refine b_X8_look_X6_0 ho hx ⟨fun w => absurd (z.symm.trans w) (by decide), fun _ => ?_⟩
    refine k_same x1 hx g1 hG g2 hp (fun w => ?_) (fun w => ?_)
    · subst w
      exact b_X8_look_X6_15 ho hx ⟨fun w => absurd w (by decide), fun _ => H m z g2 g3 (fz_refl _ _ _)⟩
    · exact b_X8_look_X6_15 ho hx ⟨fun _ => anew, fun w => absurd rfl w⟩
theorem k_look7 {o x : Nat} {G : Gr} (ho : sX7 o) (hx : sX1 x) (he : 13 ≤ e) (hG : gWF G) (hp : pG m x G) (hd : x + 15 ≤ o ∨ o + 60 ≤ x) (hs : seen7 m o) (H : ∀ m', m'.1 o 8 = 1 → pG m' (o + 1) G → pTS m' o (gn G) (tree G) → m'.1 (o + 22) 0 = nI (ms0 G 0) → fz o (o + 60) m m' → Q none (mk m')) : Ok g gr e mX8_look 0 0 [.ref o, .ref x] (mk m) Q := by
  obtain ⟨d, rfl⟩ := dn he
  have h7 := hG.2.1.2
  have x1 : sX1 (o + 1) := sX7_s0 ho
  have x25 : sX0 (o + 25) := sX7_c ho (show 0 < 7 by decide)
  have anew : ∀ m1, m1 = wI m o 8 (1 : Int32) → Ok g gr (d + 12) mX1_take 0 0 [.ref (o + 1), .ref x] (mk m1) (fun r h2 => WP g gr (d + 13) mX8_look 0 0 32 [.ref o, .retAddr 0] (r.toList ++ []) h2 Q) := by
    intro m1 e1
    have f1 : fz o (o + 60) m m1 := fz_eI e1
    refine k_take x1 hx (by omega) (by omega) (pG_fz hp f1 (by omega)) (fun m2 a1 a2 => ?_)
    refine b_X8_look_X7_32 ho ?_
    intro m3 e3 m4 e4 m5 e5 m6 e6 m7 e7 m8 e8
    have f8 : fz o (o + 1) m2 m8 := fz_trans (fz_eI e3) (fz_trans (fz_eI e4) (fz_trans (fz_eI e5) (fz_trans (fz_eI e6) (fz_trans (fz_eI e7) (fz_eI e8)))))
    have r8 : m8.1 o 8 = 1 := by rw [e8, rI_n (by omega), e7, rI_n (by omega), e6, rI_n (by omega), e5, rI_n (by omega), e4, rI_n (by omega), e3, rI_n (by omega), fz_1 a2 (by omega), e1, rI_s]
    have hss : pTS m8 o (gn G) ts0 := by
      refine ⟨?_, ?_, ?_, ?_, fun z => absurd rfl z⟩
      · rw [e8, rI_n (by omega), e7, rI_n (by omega), e6, rI_n (by omega), e5, rI_n (by omega), e4, rI_n (by omega), e3, rI_s]; rfl
      · rw [e8, rI_n (by omega), e7, rI_n (by omega), e6, rI_n (by omega), e5, rI_n (by omega), e4, rI_s]; rfl
      · rw [e8, rI_n (by omega), e7, rI_s]; rfl
      · rw [e8, rI_s]; rfl
    have p8 := pG_fz a1 f8 (by omega)
    refine k_begin x25 x1 (by omega) hG p8 (by omega) (fun m9 b1 b2 b3 => ?_)
    refine b_X8_look_X7_69 ho ?_
    refine k_mark x25 (by omega) h7 b1 (by have := cwf_le (st_cwf hG); omega) b2 ?_
    refine b_X8_look_X7_86 ho (sX2_s2 (sX7_s2 ho)) ⟨pk_in 0 7 (by decide), ?_⟩
    intro m10 e10
    have e10 : m10 = wI m9 (o + 18) 0 (nI (mrk (st G).1 (gn G) (st G).2.1 (st G).2.2)) := e10
    have f10 : fz (o + 17) (o + 21) m9 m10 := fz_eI e10
    have hall : fz o (o + 60) m m10 := fz_trans f1 (fz_trans (fz_mono a2) (fz_trans (fz_mono f8) (fz_trans (fz_mono b3) (fz_mono f10))))
    refine k_come7 ho hG 7 (d + 12) _ _ 0 (ms0 G) 0 0 ts0 m10 _ (by omega) (by omega) (nod_0 hG) (tft_0 _) (tree_l hG) (pG_fz (pG_fz p8 b3 (by omega)) f10 (by omega)) (pC_fz b1 f10 (by omega)) (fun i hi => ?_) (pTS_fz (pTS_fz hss b3 (by omega)) f10 (by omega)) (fun m11 c1 c2 => ?_)
    · have : i = 0 := by omega
      subst this
      rw [e10, rI_s]; rfl
    · refine b_X8_look_X7_93 (H m11 ?_ (pG_fV (pG_fz (pG_fz p8 b3 (by omega)) f10 (by omega)) c2) c1 ?_ (fz_trans hall (fun a ha => c2.1 a (by omega))))
      · rw [c2.2.2, fz_1 f10 (by omega), fz_1 b3 (by omega)]; exact r8
      · have hb := c1.2.2.2.2 (best_same hG).2.1
        rw [show o + 22 = o + 21 + 1 from rfl, hb.2.2.1 0 (Nat.zero_le _)]
        have := tree_m0 hG
        rw [← this]; rfl
  rcases hs with z | ⟨z, G0, g1, g2, g3, g4⟩
  · exact b_X8_look_X7_0 ho hx ⟨fun _ => anew, fun w => absurd z w⟩
  · refine b_X8_look_X7_0 ho hx ⟨fun w => absurd (z.symm.trans w) (by decide), fun _ => ?_⟩
    refine k_same x1 hx g1 hG g2 hp (fun w => ?_) (fun w => ?_)
    · subst w
      exact b_X8_look_X7_15 ho hx ⟨fun w => absurd w (by decide), fun _ => H m z g2 g3 g4 (fz_refl _ _ _)⟩
    · exact b_X8_look_X7_15 ho hx ⟨fun _ => anew, fun w => absurd rfl w⟩
end ZLo
