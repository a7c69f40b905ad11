/-! text: the class's chains -/
section ZRf
variable {g : zG} {gr : Bool} {e : Nat} {Q : Option Value → zH → Prop} {m : zm} {b : Nat → Nat} {n : Nat}
def XE (g : zG) (gr : Bool) (d : Nat) (Q : Option Value → zH → Prop) (m : zm) (l2 l3 l4 : Int32) : Prop := ((l2 = 0 → (Q (some (.int (1 : Int32))) (mk m))) ∧ (¬ l2 = 0 → (((m.1 5 6) = (3 : Int32) → (Ok g gr (d + 1) mX5_joins 0 0 [.ref 5, .int l4, .int l3] (mk m) (fun r h2 => WP g gr (d + 2) mX5_readChain 0 0 109 [.retAddr 0, .retAddr 0, .retAddr 0, .retAddr 0, .retAddr 0, .retAddr 0, .retAddr 0] (r.toList ++ []) h2 Q))) ∧ (¬ (m.1 5 6) = (3 : Int32) → ((¬ (m.1 5 6) = 0 → (Q (some (.int (1 : Int32))) (mk m))) ∧ ((m.1 5 6) = 0 → (Ok g gr (d + 1) mX5_joins 0 0 [.ref 5, .int l4, .int l3] (mk m) (fun r h2 => WP g gr (d + 2) mX5_readChain 0 0 109 [.retAddr 0, .retAddr 0, .retAddr 0, .retAddr 0, .retAddr 0, .retAddr 0, .retAddr 0] (r.toList ++ []) h2 Q))))))))
def XV (g : zG) (gr : Bool) (d : Nat) (Q : Option Value → zH → Prop) (m : zm) (l1 l2 l3 l4 l5 : Int32) : Prop := (((m.1 5 6) = (1 : Int32) → (((400 : Int32) ≤ (m.1 5 7) → ((tX1_has m 6 (0 : Int32) → ((¬ l5 = 0 → (Ok g gr (d + 1) mX5_joins 0 0 [.ref 5, .int l4, .int (0 : Int32)] (mk m) (fun r h2 => WP g gr (d + 2) mX5_readChain 0 0 64 [.ref 5, .int l1, .int l2, .int l3, .retAddr 0, .int l5, .int (0 : Int32)] (r.toList ++ []) h2 Q))) ∧ (l5 = 0 → (Ok g gr (d + 1) mX5_step 0 0 [.ref 5] (mk m) (fun r h2 => WP g gr (d + 2) mX5_readChain 0 0 77 [.ref 5, .int l1, .int l2, .int (0 : Int32), .int (0 : Int32), .int l5, .retAddr 0] (r.toList ++ []) h2 Q))))) ∧ (¬ tX1_has m 6 (0 : Int32) → (∀ m1855 : zm, m1855 = wI m 5 1 (2 : Int32) → (Q (some (.int (0 : Int32))) (mk (wI m1855 5 2 (m1855.1 5 7)))))))) ∧ (¬ (400 : Int32) ≤ (m.1 5 7) → (vp_in (m.1 5 7) 400 ∧ (((tX1_has m 6 ((m.1 21 ((m.1 5 7).toNatClampNeg)) - (48 : Int32)) → ((¬ l5 = 0 → (Ok g gr (d + 1) mX5_joins 0 0 [.ref 5, .int l4, .int ((m.1 21 ((m.1 5 7).toNatClampNeg)) - (48 : Int32))] (mk m) (fun r h2 => WP g gr (d + 2) mX5_readChain 0 0 64 [.ref 5, .int l1, .int l2, .int l3, .retAddr 0, .int l5, .int ((m.1 21 ((m.1 5 7).toNatClampNeg)) - (48 : Int32))] (r.toList ++ []) h2 Q))) ∧ (l5 = 0 → (Ok g gr (d + 1) mX5_step 0 0 [.ref 5] (mk m) (fun r h2 => WP g gr (d + 2) mX5_readChain 0 0 77 [.ref 5, .int l1, .int l2, .int ((m.1 21 ((m.1 5 7).toNatClampNeg)) - (48 : Int32)), .int ((m.1 21 ((m.1 5 7).toNatClampNeg)) - (48 : Int32)), .int l5, .retAddr 0] (r.toList ++ []) h2 Q))))) ∧ (¬ tX1_has m 6 ((m.1 21 ((m.1 5 7).toNatClampNeg)) - (48 : Int32)) → (∀ m1861 : zm, m1861 = wI m 5 1 (2 : Int32) → (Q (some (.int (0 : Int32))) (mk (wI m1861 5 2 (m1861.1 5 7)))))))))))) ∧ (¬ (m.1 5 6) = (1 : Int32) → (∀ m1862 : zm, m1862 = wI m 5 1 (1 : Int32) → (Q (some (.int (0 : Int32))) (mk (wI m1862 5 2 (m1862.1 5 7)))))))
def rn (ring : Bool) : Nat := if ring = true then 1 else 0
theorem k_cEnd {d first last : Nat} {ring : Bool} {σ : Sr} (h : cP m b n σ) (hW : srW b n σ) (hf : first < gn (s_G σ)) (hl : last < gn (s_G σ)) (K : ∀ m' x, cR m m' b n (rEnd first last ring σ) x → Q (some (.int x)) (mk m')) : XE g gr d Q m (nI (rn ring)) (nI first) (nI last) := by
  have one : rEnd first last ring σ = .inr σ → Q (some (.int 1)) (mk m) := fun e => by
    rw [e] at K; exact K m 1 (cR_r h (fRk_refl m))
  have kk := hW.1.2.2.2.2.2.2
  have two : ring = true ∧ (s_k σ = 3 ∨ s_k σ = 0) → Ok g gr (d + 1) mX5_joins 0 0 [.ref 5, .int (nI last), .int (nI first)] (mk m) (fun r h2 => WP g gr (d + 2) mX5_readChain 0 0 109 [.retAddr 0, .retAddr 0, .retAddr 0, .retAddr 0, .retAddr 0, .retAddr 0, .retAddr 0] (r.toList ++ []) h2 Q) := fun c => by
    rw [rEnd_1 c] at K
    refine k_joins (by omega) h hW.2.1 hl hf (fun z m2 a => b_X5_readChain_109 ⟨fun _ => ?_, fun y => absurd rfl y⟩) (fun z m2 h2 f2 => b_X5_readChain_109 ⟨fun y => absurd y (by decide), fun _ => ?_⟩)
    · rw [if_pos z] at K; exact K m2 0 (cR_l a)
    · rw [if_neg z] at K; exact K m2 1 (cR_r h2 f2)
  cases ring with
  | false => exact ⟨fun _ => one (rEnd_0 (fun z => by cases z.1)), fun z => absurd rfl z⟩
  | true =>
    refine ⟨fun z => absurd z (by decide), fun _ => ?_⟩
    refine pk_eq (s_k σ) 3 (fun z => two ⟨rfl, Or.inl z⟩) (fun z => ?_) h.2.2.1 rfl (by show σ.1.1 < _; omega) (by omega)
    refine pk_eq (s_k σ) 0 (fun y => two ⟨rfl, Or.inr y⟩) (fun y => one (rEnd_0 (fun q => q.2.elim z y))) h.2.2.1 rfl (by show σ.1.1 < _; omega) (by omega) |> fun h => ⟨h.2, h.1⟩
theorem k_cV {d i first last : Nat} {l1 l2 : Int32} {σ : Sr} (hb : ∀ i, b i < 256) (hn : n ≤ 400) (h : cP m b n σ) (hW : srW b n σ) (hi : 1 ≤ i) (hi2 : i < 2 ^ 31) (hl : last < gn (s_G σ)) (KE : ∀ x, rLnk b n last σ = .inl x → ∀ m', cE m m' x.1 x.2 → Q (some (.int 0)) (mk m')) (KI : ∀ τ, rLnk b n last σ = .inr τ → ∀ m', cP m' b n τ → fRk m m' → WP g gr (d + 2) mX5_readChain 0 0 8 [.ref 5, .int l1, .int l2, .int (nI first), .int (nI (s_d b σ)), .int (nI (i + 1)), .retAddr 0] [] (mk m') Q) : XV g gr d Q m l1 l2 (nI first) (nI last) (nI i) := by
  have hG := hW.2.1
  have h7 := hG.2.1.2
  by_cases k1 : s_k σ = 1
  · obtain ⟨ha, hin, h4, ed⟩ := c_dig hn h hW k1
    refine ⟨fun _ => ⟨fun z => absurd z h4, fun _ => ⟨hin, ?_⟩⟩, fun z => absurd (c_k1 h k1) z⟩
    rw [ed]
    by_cases hv : gn (s_G σ) ≤ s_d b σ
    · exact ite_n (c_has_n h hW k1 hv) (c_err h hG.1 rfl (KE _ (rLnk_2 k1 hv)))
    · refine ite_y (c_has_y h hW hv) ⟨fun _ => ?_, fun z => absurd ((nI_eq (a := i) (b := 0) hi2 (by decide)).mp z) (by omega)⟩
      have hv' := Nat.lt_of_not_le hv
      refine k_joins (by omega) h hG hl hv' (fun z m2 a => b_X5_readChain_64 ⟨fun y => absurd rfl y, fun _ => KE _ (rLnk_3 k1 hv z) m2 a⟩) (fun z m2 h2 f2 => b_X5_readChain_64 ⟨fun _ => ?_, fun y => absurd y (by decide)⟩)
      refine k_stepP (by omega) hb hn h2 hW.1.2.1 (fun m3 h3 f3 => b_X5_readChain_77 ?_)
      rw [nI_1]
      exact KI _ (rLnk_0 k1 hv z) m3 h3 (fRk_trans f2 f3)
  · exact ⟨fun z => absurd z (c_kn h hW (by decide) k1), fun _ => c_err h hG.1 rfl (KE _ (rLnk_1 k1))⟩
theorem k_chn {d need first : Nat} {ring : Bool} (hb : ∀ i, b i < 256) (hn : n ≤ 400) (hne : need ≤ 2) : ∀ (f i last : Nat) (σ : Sr) (m : zm), i + f = 402 → 1 ≤ i → i ≤ s_a σ → cP m b n σ → srW b n σ → first < gn (s_G σ) → last < gn (s_G σ) → (∀ m' x, cR m m' b n (rChn b n f (need + 1 - i) first last ring σ) x → Q (some (.int x)) (mk m')) → WP g gr (d + 2) mX5_readChain 0 0 8 [.ref 5, .int (nI (need + 1)), .int (nI (rn ring)), .int (nI first), .int (nI last), .int (nI i), .retAddr 0] [] (mk m) Q := by
  intro f
  induction f with
  | zero =>
    intro i last σ m hif h1 hia h hW hf hl K
    have := hW.1.1
    have := hW.1.2.1
    have : s_a σ = σ.1.2.1 := rfl
    omega
  | succ f ih =>
    intro i last σ m hif h1 hia h hW hf hl K
    have a1 := hW.1.1
    have a2 := hW.1.2.1
    have a3 : s_a σ = σ.1.2.1 := rfl
    have kk := hW.1.2.2.2.2.2.2
    have vv : (0 < need + 1 - i ∨ s_k σ = 1) → XV g gr d Q m (nI (need + 1)) (nI (rn ring)) (nI first) (nI last) (nI i) := fun c => by
      refine k_cV hb hn h hW h1 (by omega) hl (fun x e m' a => ?_) (fun τ e m' hp ff => ?_)
      · rw [rChn_e c e] at K
        exact K m' 0 (cR_l a)
      · rw [rChn_i c e] at K
        have w := rLnk_W (a := last) hW hl
        have w1 := w.1 τ e
        have w2 := w.2 τ e
        refine ih (i + 1) (s_d b σ) τ m' (by omega) (by omega) (by omega) hp w1.1 (by rw [w2.2.2]; exact hf) (by rw [w2.2.2]; exact w2.2.1) (fun m2 x hr => K m2 x (cR_f ff ?_))
        rw [show need + 1 - i - 1 = need + 1 - (i + 1) by omega]
        exact hr
    have ee : ¬ (0 < need + 1 - i ∨ s_k σ = 1) → XE g gr d Q m (nI (rn ring)) (nI first) (nI last) := fun c => by
      rw [rChn_0 c] at K
      exact k_cEnd h hW hf hl K
    refine b_X5_readChain_8 (pk_le 400 i (fun z => ee ?_) (fun z => pk_lt i (need + 1) (fun y => vv (Or.inl (by omega))) (fun y => ?_)))
    · rintro (q | q)
      · omega
      · have := (hW.1.2.2.1 (by show σ.1.1 ≠ 0; rw [show σ.1.1 = 1 from q]; decide)).1
        omega
    · exact ⟨fun q => ee (fun c => c.elim (fun x => by omega) (fun x => q (c_k1 h x))), fun q => (vv (Or.inr (Decidable.byContradiction fun x => c_kn h hW (j := 1) (by decide) x q))).1 q⟩
theorem k_readChain (he : 2 ≤ e) (hb : ∀ i, b i < 256) (hn : n ≤ 400) {need : Nat} {ring : Bool} (hne : need ≤ 2) {σ : Sr} (h : cP m b n σ) (hW : srW b n σ) (K : ∀ m' x, cR m m' b n (rChain b n need ring σ) x → Q (some (.int x)) (mk m')) : Ok g gr e mX5_readChain 0 0 [.ref 5, .int (nI (need + 1)), .int (nI (rn ring))] (mk m) Q := by
  obtain ⟨d, rfl⟩ := dn he
  have hG := hW.2.1
  have h7 := hG.2.1.2
  unfold rChain at K
  refine b_X5_readChain_0 (b_X5_readChain_8 ⟨fun z => absurd z (by decide), fun _ => ⟨fun _ => ?_, fun z => absurd (show (0 : Int32) < nI (need + 1) from nI_lt (a := 0) (by omega) (by omega)) z⟩⟩)
  by_cases k1 : s_k σ = 1
  · rw [if_neg (fun z => z k1)] at K
    obtain ⟨ha, hin, h4, ed⟩ := c_dig hn h hW k1
    refine ⟨fun _ => ⟨fun z => absurd z h4, fun _ => ⟨hin, ?_⟩⟩, fun z => absurd (c_k1 h k1) z⟩
    rw [ed]
    by_cases hv : gn (s_G σ) ≤ s_d b σ
    · rw [if_pos hv] at K
      exact ite_n (c_has_n h hW k1 hv) (c_err h hG.1 rfl (fun m' a => K m' 0 (cR_l a)))
    · rw [if_neg hv] at K
      refine ite_y (c_has_y h hW hv) ⟨fun z => absurd rfl z, fun _ => ?_⟩
      have hv' := Nat.lt_of_not_le hv
      have hW1 := s_n_W hW
      have h6 : s_a σ < s_x σ := (hW.1.2.2.1 (by show σ.1.1 ≠ 0; rw [show σ.1.1 = 1 from k1]; decide)).2
      refine k_stepP (by omega) hb hn h hW.1.2.1 (fun m1 h1 f1 => b_X5_readChain_77 ?_)
      rw [show (0 : Int32) + 1 = nI 1 from rfl]
      exact k_chn hb hn hne 401 1 (s_d b σ) _ m1 (by omega) (by omega) (by have := hW1.2; omega) h1 hW1.1 hv' hv' (fun m' x hr => K m' x (cR_f f1 hr))
  · rw [if_pos k1] at K
    exact ⟨fun z => absurd z (c_kn h hW (by decide) k1), fun _ => c_err h hG.1 rfl (fun m' a => K m' 0 (cR_l a))⟩
end ZRf
