/-! text: all of it, the model's -/
theorem rPaint_f {b : Nat → Nat} {n : Nat} {σ : Sr} : ∀ x, rPaint b n σ = .inl x → 1 ≤ x.1 ∧ x.1 ≤ 3 := by
  intro x e
  unfold rPaint at e
  repeat' split at e
  all_goals first | (cases e; done) | (cases e; simp)
theorem rLnk_f {b : Nat → Nat} {n a : Nat} {σ : Sr} : ∀ x, rLnk b n a σ = .inl x → 1 ≤ x.1 ∧ x.1 ≤ 3 := by
  intro x e
  unfold rLnk at e
  repeat' split at e
  all_goals first | (cases e; done) | (cases e; simp)
theorem rLink_f {b : Nat → Nat} {n : Nat} {σ : Sr} : ∀ x, rLink b n σ = .inl x → 1 ≤ x.1 ∧ x.1 ≤ 3 := by
  intro x e
  unfold rLink at e
  split at e
  · cases e; simp
  · split at e
    · cases e; simp
    · split at e
      · rename_i y ey
        cases e
        exact rLnk_f _ ey
      · repeat' split at e
        all_goals first | (cases e; done) | (cases e; simp)
theorem rEnd_f {b : Nat → Nat} {n first last : Nat} {ring : Bool} {σ : Sr} : ∀ x, rEnd first last ring σ = .inl x → 1 ≤ x.1 ∧ x.1 ≤ 3 := by
  intro x e
  unfold rEnd at e
  repeat' split at e
  all_goals first | (cases e; done) | (cases e; simp)
theorem rChn_f {b : Nat → Nat} {n first : Nat} {ring : Bool} : ∀ (f need last : Nat) (σ : Sr), ∀ x, rChn b n f need first last ring σ = .inl x → 1 ≤ x.1 ∧ x.1 ≤ 3 := by
  intro f
  induction f with
  | zero => intro need last σ x e; exact rEnd_f (b := b) (n := n) x e
  | succ f ih =>
    intro need last σ x e
    unfold rChn at e
    split at e
    · split at e
      · rename_i y ey
        cases e
        exact rLnk_f _ ey
      · exact ih _ _ _ x e
    · exact rEnd_f (b := b) (n := n) x e
theorem rChain_f {b : Nat → Nat} {n need : Nat} {ring : Bool} {σ : Sr} : ∀ x, rChain b n need ring σ = .inl x → 1 ≤ x.1 ∧ x.1 ≤ 3 := by
  intro x e
  unfold rChain at e
  split at e
  · cases e; simp
  · split at e
    · cases e; simp
    · exact rChn_f _ _ _ _ x e
theorem rLine_f {b : Nat → Nat} {n : Nat} {σ : Sr} : ∀ x, rLine b n σ = .inl x → 1 ≤ x.1 ∧ x.1 ≤ 3 := by
  classical
  intro x e
  unfold rLine at e
  split at e
  · exact rPaint_f x e
  · split at e
    · exact rLink_f x e
    · split at e
      · exact rChain_f x e
      · split at e
        · exact rChain_f x e
        · cases e; simp
theorem rLines_e {b : Nat → Nat} {n f : Nat} {σ : Sr} {x : Nat × Nat} (h : s_k σ = 3) (h2 : rLine b n (s_n b n σ) = .inl x) : rLines b n (f + 1) σ = .inl x := by
  conv => lhs; unfold rLines
  rw [if_pos h, h2]
theorem rLines_i {b : Nat → Nat} {n f : Nat} {σ τ : Sr} (h : s_k σ = 3) (h2 : rLine b n (s_n b n σ) = .inr τ) : rLines b n (f + 1) σ = rLines b n f τ := by
  conv => lhs; unfold rLines
  rw [if_pos h, h2]
theorem rLines_0 {b : Nat → Nat} {n f : Nat} {σ : Sr} (h : s_k σ = 0) : rLines b n (f + 1) σ = .inr σ := by
  conv => lhs; unfold rLines
  rw [if_neg (by rw [h]; decide), if_pos h]
theorem rLines_1 {b : Nat → Nat} {n f : Nat} {σ : Sr} (h : ¬ s_k σ = 3) (h2 : ¬ s_k σ = 0) : rLines b n (f + 1) σ = .inl (1, s_a σ) := by
  conv => lhs; unfold rLines
  rw [if_neg h, if_neg h2]
theorem rLines_f {b : Nat → Nat} {n : Nat} : ∀ (f : Nat) (σ : Sr), ∀ x, rLines b n f σ = .inl x → 1 ≤ x.1 ∧ x.1 ≤ 3 := by
  intro f
  induction f with
  | zero => intro σ x e; cases e
  | succ f ih =>
    intro σ x e
    by_cases h : s_k σ = 3
    · cases hl : rLine b n (s_n b n σ) with
      | inl y => rw [rLines_e h hl] at e; cases e; exact rLine_f _ hl
      | inr τ => rw [rLines_i h hl] at e; exact ih _ _ e
    · by_cases h2 : s_k σ = 0
      · rw [rLines_0 h2] at e; cases e
      · rw [rLines_1 h h2] at e; cases e; simp
theorem rLines_W {b : Nat → Nat} {n : Nat} : ∀ (f : Nat) (σ : Sr), srW b n σ → ∀ τ, rLines b n f σ = .inr τ → srW b n τ := by
  intro f
  induction f with
  | zero => intro σ h τ e; cases e; exact h
  | succ f ih =>
    intro σ h τ e
    by_cases h1 : s_k σ = 3
    · cases hl : rLine b n (s_n b n σ) with
      | inl y => rw [rLines_e h1 hl] at e; cases e
      | inr υ => rw [rLines_i h1 hl] at e; exact ih υ (rLine_W (s_n_W h).1 υ hl).1 τ e
    · by_cases h2 : s_k σ = 0
      · rw [rLines_0 h2] at e; cases e; exact h
      · rw [rLines_1 h1 h2] at e; cases e
theorem rAll_1 {b : Nat → Nat} {n : Nat} (h : ¬ isWd b (sr0 b n (gE 1)) w_size) : rAll b n = .inl (1, s_a (sr0 b n (gE 1))) := by unfold rAll; rw [if_pos h]
theorem rAll_2 {b : Nat → Nat} {n : Nat} (h : isWd b (sr0 b n (gE 1)) w_size) (h2 : ¬ s_k (s_n b n (sr0 b n (gE 1))) = 1) : rAll b n = .inl (1, s_a (s_n b n (sr0 b n (gE 1)))) := by unfold rAll; rw [if_neg (fun z => z h), if_pos h2]
theorem rAll_3 {b : Nat → Nat} {n : Nat} (h : isWd b (sr0 b n (gE 1)) w_size) (h2 : s_k (s_n b n (sr0 b n (gE 1))) = 1) (h3 : s_d b (s_n b n (sr0 b n (gE 1))) < 1 ∨ 7 < s_d b (s_n b n (sr0 b n (gE 1)))) : rAll b n = .inl (2, s_a (s_n b n (sr0 b n (gE 1)))) := by unfold rAll; rw [if_neg (fun z => z h), if_neg (fun z => z h2), if_pos h3]
theorem rAll_0 {b : Nat → Nat} {n : Nat} (h : isWd b (sr0 b n (gE 1)) w_size) (h2 : s_k (s_n b n (sr0 b n (gE 1))) = 1) (h3 : ¬ (s_d b (s_n b n (sr0 b n (gE 1))) < 1 ∨ 7 < s_d b (s_n b n (sr0 b n (gE 1))))) : rAll b n = rLines b n 401 (s_n b n ((s_n b n (sr0 b n (gE 1))).1, gE (s_d b (s_n b n (sr0 b n (gE 1)))), 0)) := by unfold rAll; rw [if_neg (fun z => z h), if_neg (fun z => z h2), if_neg h3]
theorem sr0_T (b : Nat → Nat) (n : Nat) (G : Gr) : tkW b n (sr0 b n G).1 := (tk_W b (Nat.zero_le n)).1
theorem s_n_T {b : Nat → Nat} {n : Nat} {σ : Sr} (h : tkW b n σ.1) : tkW b n (s_n b n σ).1 ∧ s_x σ ≤ s_a (s_n b n σ) := tk_W b h.2.1
theorem rAll_f {b : Nat → Nat} {n : Nat} : ∀ x, rAll b n = .inl x → 1 ≤ x.1 ∧ x.1 ≤ 3 := by
  classical
  intro x e
  unfold rAll at e
  split at e
  · cases e; simp
  · split at e
    · cases e; simp
    · split at e
      · cases e; simp
      · exact rLines_f _ _ x e
/-- the state ahead of the lines -/
theorem srL_W {b : Nat → Nat} {n : Nat} (h3 : ¬ (s_d b (s_n b n (sr0 b n (gE 1))) < 1 ∨ 7 < s_d b (s_n b n (sr0 b n (gE 1))))) : srW b n (s_n b n ((s_n b n (sr0 b n (gE 1))).1, gE (s_d b (s_n b n (sr0 b n (gE 1)))), 0)) := by
  refine ⟨(s_n_T (σ := ((s_n b n (sr0 b n (gE 1))).1, gE (s_d b (s_n b n (sr0 b n (gE 1)))), 0)) (s_n_T (sr0_T b n (gE 1))).1).1, gE_WF (n := s_d b (s_n b n (sr0 b n (gE 1)))) ⟨by omega, by omega⟩, by show (0 : Nat) < 128; decide⟩
theorem rAll_W {b : Nat → Nat} {n : Nat} : ∀ τ, rAll b n = .inr τ → srW b n τ := by
  classical
  intro τ e
  unfold rAll at e
  split at e
  · cases e
  · split at e
    · cases e
    · split at e
      · cases e
      · rename_i h1 h2 h3
        exact rLines_W _ _ (srL_W h3) τ e
section ZTn
variable {g : zG} {gr : Bool} {e : Nat} {Q : Option Value → zH → Prop} {m : zm} {b : Nat → Nat} {n : Nat}
abbrev fRa (m m' : zm) : Prop := fM [11, 12, 13, 14, 15, 16, 17, 18, 20] [816] m m'
theorem fRa_m {m m' : zm} (h : fRm m m') : fRa m m' := fM_mono h
def dA (m m' : zm) (b : Nat → Nat) (n : Nat) (r : Rs) : Prop := (∀ f p, r = .inl (f, p) → m'.1 810 17 = nI f ∧ ¬ m'.1 810 17 = 0 ∧ m'.1 810 18 = nI p ∧ fRa m m') ∧ ∀ τ, r = .inr τ → dP m' b n τ ∧ fRa m m'
theorem dA_E {m m1 m' : zm} {b : Nat → Nat} {n f p : Nat} (f1 : fRa m m1) (h : dE m1 m' f p) : dA m m' b n (.inl (f, p)) := ⟨fun f2 p2 e => (by cases e; exact ⟨h.1, h.2.1, h.2.2.1, fM_trans f1 (fRa_m h.2.2.2)⟩), fun τ e => (by cases e)⟩
theorem dA_R {m m1 m' : zm} {b : Nat → Nat} {n : Nat} {r : Rs} (f1 : fRa m m1) (h : dR m1 m' b n r) : dA m m' b n r := ⟨fun f2 p2 e => (by have := h.1 f2 p2 e; exact ⟨this.1, this.2.1, this.2.2.1, fM_trans f1 (fRa_m this.2.2.2)⟩), fun τ e => ⟨(h.2 τ e).1, fM_trans f1 (fRa_m (h.2 τ e).2)⟩⟩
theorem d_90E {d : Nat} (h : ¬ m.1 810 17 = 0) (K : Q none (mk m)) : WP g gr (d + 6) mX10_reads 0 0 90 [.ref 810, .retAddr 0, .retAddr 0] [] (mk m) Q :=
  b_X10_reads_90 (ite_u h ⟨fun _ => K, fun _ => K⟩)
theorem d_rlines {d : Nat} (hb : ∀ i, b i < 256) (hn : n ≤ 400) : ∀ (f i : Nat) (σ : Sr) (m : zm), i + f = 401 → i ≤ s_a σ → dP m b n σ → srW b n σ → (∀ m', dR m m' b n (rLines b n f σ) → Q none (mk m')) → WP g gr (d + 6) mX10_reads 0 0 90 [.ref 810, .retAddr 0, .retAddr 0] [] (mk m) Q := by
  intro f
  induction f with
  | zero =>
    intro i σ m hif hia h hW K
    have := hW.1.1
    have := hW.1.2.1
    have : s_a σ = σ.1.2.1 := rfl
    omega
  | succ f ih =>
    intro i σ m hif hia h hW K
    have a1 := hW.1.1
    have a2 := hW.1.2.1
    have a3 : s_a σ = σ.1.2.1 := rfl
    refine b_X10_reads_90 (ite_v h.2.2.2.1 ?_)
    by_cases k3 : s_k σ = 3
    · refine ite_v ((d_k0 h).2.mpr k3) ?_
      have hlt := (hW.1.2.2.1 (by show σ.1.1 ≠ 0; rw [show σ.1.1 = 3 from k3]; decide))
      have hW1 := s_n_W hW
      refine d_tokenP (by omega) hb hn h hW.1.2.1 (fun m1 h1 f1 => b_X10_reads_109 ?_)
      refine d_line (by omega) hb hn h1 hW1.1 (fun m2 hL => b_X10_reads_113 ?_)
      cases hl : rLine b n (s_n b n σ) with
      | inl y =>
        rw [rLines_e k3 hl] at K
        have hE := hL.1 y.1 y.2 hl
        exact d_90E hE.2.1 (K m2 (dR_f f1 (dR_l hE)))
      | inr τ =>
        rw [rLines_i k3 hl] at K
        have hT := rLine_W hW1.1 τ hl
        have h8 : s_a σ < s_x σ := hlt.2
        have h9 := hW1.2
        have h10 := hT.2
        rcases hL.2 τ hl with ⟨h2, f2⟩ | ⟨n3, n0, hE⟩
        · exact ih (i + 1) τ m2 (by omega) (by omega) h2 hT.1 (fun m' hr => K m' (dR_f (fM_trans f1 f2) hr))
        · obtain ⟨f', rfl⟩ : ∃ f', f = f' + 1 := ⟨f - 1, by omega⟩
          rw [rLines_1 n3 n0] at K
          exact d_90E hE.2.1 (K m2 (dR_f f1 (dR_l hE)))
    · refine ite_u (fun z => k3 ((d_k0 h).2.mp z)) ?_
      by_cases k0 : s_k σ = 0
      · rw [rLines_0 k0] at K
        exact ite_y ((d_k0 h).1.mpr k0) (K m (dR_r h (fM_refl _ _ _)))
      · rw [rLines_1 k3 k0] at K
        exact ite_n (fun z => k0 ((d_k0 h).1.mp z)) (wF_al2 (P := fun m' => Q none (mk m')) (K _ (dR_l (wF_E h (f := 1) (c := 1) rfl (by decide)))))
theorem d_77E {d : Nat} (h : ¬ m.1 810 17 = 0) (K : ∀ x, Q none (mk (wI m 816 0 x))) : WP g gr (d + 6) mX10_reads 0 0 77 [.ref 810, .retAddr 0, .retAddr 0] [] (mk m) Q :=
  b_X10_reads_77 (d_takesE (by omega) h fun x => b_X10_reads_89 ⟨pk_in 0 57 (by decide), d_90E (fun z => h ((rI_n (by decide)).symm.trans z)) (K x)⟩)
theorem dE_0 {m m' : zm} {f p : Nat} {x : Int32} (h : dE m m' f p) : dE m (wI m' 816 0 x) f p := ⟨(rI_n (by decide)).trans h.1, fun z => h.2.1 ((rI_n (by decide)).symm.trans z), (rI_n (by decide)).trans h.2.2.1, fM_trans h.2.2.2 fM_r⟩
theorem d_reads (he : 6 ≤ e) (hb : ∀ i, b i < 256) (hn : n ≤ 400) (hr : ∀ i, i < n → m.1 815 i = nI (b i)) (K : ∀ m', dA m m' b n (rAll b n) → Q none (mk m')) : Ok g gr e mX10_reads 0 0 [.ref 810, .int (nI n)] (mk m) Q := by
  obtain ⟨d, rfl⟩ := dn he
  refine b_X10_reads_0 ?_
  rintro m1 rfl m2 rfl m3 rfl m4 rfl
  have f0 : fRa m (wI (wI (wI (wI (wI m 810 11 (nI n)) 810 12 0) 810 17 0) 810 18 (-1)) 810 20 0) := fM_trans fM_f (fM_trans fM_f (fM_trans fM_f (fM_trans fM_f fM_f)))
  have e11 : (wI (wI (wI (wI (wI m 810 11 (nI n)) 810 12 0) 810 17 0) 810 18 (-1)) 810 20 0).1 810 11 = nI n := by rw [rI_n (by decide), rI_n (by decide), rI_n (by decide), rI_n (by decide), rI_s]
  have e12 : (wI (wI (wI (wI (wI m 810 11 (nI n)) 810 12 0) 810 17 0) 810 18 (-1)) 810 20 0).1 810 12 = nI 0 := by rw [rI_n (by decide), rI_n (by decide), rI_n (by decide), rI_s]; rfl
  have e17 : (wI (wI (wI (wI (wI m 810 11 (nI n)) 810 12 0) 810 17 0) 810 18 (-1)) 810 20 0).1 810 17 = 0 := by rw [rI_n (by decide), rI_n (by decide), rI_s]
  have e20 : (wI (wI (wI (wI (wI m 810 11 (nI n)) 810 12 0) 810 17 0) 810 18 (-1)) 810 20 0).1 810 20 = nI 0 := by rw [rI_s]; rfl
  revert f0 e11 e12 e17 e20
  generalize wI (wI (wI (wI (wI m 810 11 (nI n)) 810 12 0) 810 17 0) 810 18 (-1)) 810 20 0 = m5
  intro f0 e11 e12 e17 e20
  refine up_to (n := 57) (P := fun k => ∀ m', (∀ j, j < k → m'.1 816 j = 0) → fM [] [816] m5 m' → WP g gr (d + 6) mX10_reads 0 0 27 [.ref 810, .retAddr 0, .int (nI k)] [] (mk m') Q) ?_ ?_ 0 (Nat.zero_le _) m5 (fun j hj => absurd hj (Nat.not_lt_zero _)) (fM_refl _ _ _)
  · intro m6 z6 f6
    refine b_X10_reads_27 (pk_le 57 57 (fun _ => ?_) (fun z => absurd z (Nat.lt_irrefl _)))
    have ff : fRa m m6 := fM_trans f0 (fM_mono f6)
    refine d_token (p := 0) (by omega) hb hn (by rw [fM_2 f6]; exact e11) (fun i hi => by rw [fM_1 ff (a := 815) i]; exact hr i hi) (by rw [fM_2 f6]; exact e12) (Nat.zero_le _) (fun m7 a7 f7 => b_X10_reads_50 ?_)
    have h7 : dP m7 b n (sr0 b n (gE 0)) := ⟨by rw [fM_2 f7, fM_2 f6]; exact e11, fun i hi => by rw [fM_1 f7 (a := 815) i, fM_1 ff (a := 815) i]; exact hr i hi, a7, by rw [fM_2 f7, fM_2 f6]; exact e17, by rw [fM_2 f7, fM_2 f6]; exact e20, by
      refine ⟨?_, fun v hv => ?_, fun x y hx hy => ?_⟩
      · rw [fM_1 f7 (a := 816)]; exact z6 0 (by decide)
      · rw [fM_1 f7 (a := 816)]; exact z6 _ (by omega)
      · rw [fM_1 f7 (a := 816)]; exact z6 _ (by omega)⟩
    have ff7 : fRa m m7 := fM_trans ff (fM_mono f7)
    have hT := sr0_T b n (gE 0)
    have hT1 := (s_n_T hT).1
    by_cases hs : isWd b (sr0 b n (gE 1)) w_size
    · refine ite_y ((d_w_sizeT h7 hT).mpr hs) ?_
      refine d_goesOn (by omega) hb hn h7 hT.2.1 (fun m8 h8 f8 => b_X10_reads_77 ?_)
      have ff8 := fM_trans ff7 (fRa_m f8)
      refine d_takesT (lo := 1) (hi := 7) (by omega) hb hn h8 hT1 (by decide) (by decide) (fun k2 m9 x hE => b_X10_reads_89 ⟨pk_in 0 57 (by decide), ?_⟩) (fun k2 hr2 m9 x hE => b_X10_reads_89 ⟨pk_in 0 57 (by decide), ?_⟩) (fun k2 hr2 m9 h9 f9 => b_X10_reads_89 ⟨pk_in 0 57 (by decide), ?_⟩)
      · have hE2 := dE_0 (x := x) hE
        rw [rAll_2 hs k2] at K
        exact d_90E hE2.2.1 (K _ (dA_E ff8 hE2))
      · have hE2 := dE_0 (x := x) hE
        rw [rAll_3 hs k2 hr2] at K
        exact d_90E hE2.2.1 (K _ (dA_E ff8 hE2))
      · rw [rAll_0 hs k2 hr2] at K
        have hWL := srL_W hr2
        have ff9 := fM_trans ff8 (fRa_m f9)
        have h10 : dP (wI m9 816 0 (nI (s_d b (s_n b n (sr0 b n (gE 1)))))) b n (s_n b n ((s_n b n (sr0 b n (gE 1))).1, gE (s_d b (s_n b n (sr0 b n (gE 1)))), 0)) := by
          obtain ⟨c1, c2, ⟨c3, c4, c5, c6, c7⟩, c8, c9, c10⟩ := h9
          refine ⟨(rI_n (by decide)).trans c1, fun i hi => (rI_n (by omega)).trans (c2 i hi), ⟨(rI_n (by decide)).trans c3, (rI_n (by decide)).trans c4, (rI_n (by decide)).trans c5, fun z => (rI_n (by decide)).trans (c6 z), fun z => (rI_n (by decide)).trans (c7 z)⟩, (rI_n (by decide)).trans c8, (rI_n (by decide)).trans c9, rI_s, fun x hx => (rI_n (by omega)).trans (c10.2.1 x hx), fun x y hx hy => (rI_n (by omega)).trans (c10.2.2 x y hx hy)⟩
        have h11 := (s_n_T (σ := ((s_n b n (sr0 b n (gE 1))).1, gE (s_d b (s_n b n (sr0 b n (gE 1)))), 0)) hT1)
        exact d_rlines hb hn 401 0 _ _ (by omega) (Nat.zero_le _) h10 hWL (fun m' hh => K m' (dA_R (fM_trans ff9 fM_r) hh))
    · refine ite_n (fun z => hs ((d_w_sizeT h7 hT).mp z)) (ite_v h7.2.2.2.1 (wF_all ?_))
      have hE := wF_E h7 (f := 1) (c := 1) rfl (by decide)
      rw [rAll_1 hs] at K
      exact d_errE (by omega) hE.2.1 (d_77E hE.2.1 (fun x => K _ (dA_E ff7 (dE_0 hE))))
  · intro k hk ih m' z f
    refine b_X10_reads_27 (pk_le 57 k (fun y => by omega) (fun _ => ⟨pk_in k 57 (by omega), ?_⟩))
    rw [cw (show k < 2 ^ 31 by omega), nI_1]
    refine ih _ (fun j hj => ?_) (fM_trans f fM_r)
    by_cases y : j = k
    · subst y; exact rI_s
    · rw [rI_n (by omega)]; exact z j (by omega)
end ZTn
