/-! text: what is read without a fault -/
section ZAs
theorem y_text {s : Sg} (hs : sOK s) {w : Nat} (hw : w < 3) {n : Nat} (hnT : n ≤ (y_T s).length) {τ : Sr} (hA : rAll (fun i => (y_T s).getD i 0) n = .inr τ) : gWF (s_G τ) ∧ CX s (qs (gs (ks (Rd s 0 (-1) 0) w) w (s_G τ)) 0) (nI (gn (s_G τ))) mX9_text [.int (nI w), .int (nI n)] := by
  have hT4 := hs.2.2.2.2.1
  have hn4 : n ≤ 400 := by omega
  obtain ⟨b, eb⟩ : ∃ b : Nat → Nat, b = fun i => (y_T s).getD i 0 := ⟨_, rfl⟩
  rw [← eb] at hA
  have hb : ∀ i, b i < 256 := fun i => by
    rw [eb]
    show (y_T s).getD i 0 < 256
    rcases Nat.lt_or_ge i (y_T s).length with z | z
    · rw [List.getD_eq_getElem?_getD, List.getElem?_eq_getElem z]
      exact hs.2.2.2.2.2 _ (List.getElem_mem z)
    · rw [List.getD_eq_getElem?_getD, List.getElem?_eq_none z]; decide
  have cls : ∀ (g : zG) (gr : Bool) (d : Nat) (m : zm) (Q : Option Value → zH → Prop), CR s m → (∀ m', (∀ f p, rAll b n = .inl (f, p) → m'.1 5 1 = nI f ∧ m'.1 5 2 = nI p ∧ ∃ R, gOK R ∧ pG m' 6 R) → (∀ τ, rAll b n = .inr τ → m'.1 5 1 = 0 ∧ pG m' 6 (s_G τ)) → m'.1 5 0 = 0 → fz 5 21 m m' → WP g gr (d + 11) mX9_text 0 0 45 [.ref 1, .int (nI w), .retAddr 0, .ref (272 + 140 * w)] [] (mk m') Q) → Ok g gr (d + 11) mX9_text 0 0 [.ref 1, .int (nI w), .int (nI n)] (mk m) Q := by
    intro g gr d m Q hc K
    obtain ⟨h0, hr, R, hR, hp⟩ := hc.1.2.2.2.1
    refine b_X9_text_0 (rg_y hw ⟨pk_in w 3 hw, ⟨fun z => absurd z (i_nn (by omega)), fun _ => ?_⟩⟩)
    rw [h0, cw (show w < 2 ^ 31 by omega)]
    refine pk_le n (y_T s).length (fun _ => ?_) (fun z => by omega)
    exact k_read (by omega) hb hn4 hR hp (fun i hi => by rw [hr i (by omega), eb]) K
  have hG := (rAll_W τ hA).2.1
  have h7 := hG.2.1.2
  refine ⟨hG, fun g gr e m Q he hc K => ?_⟩
  obtain ⟨d, rfl⟩ := dn (show 11 ≤ e by omega)
  refine cls g gr d m Q hc (fun m1 _ k2 k3 k4 => ?_)
  obtain ⟨c1, c2⟩ := k2 τ hA
  have h1 : CR (Rd s 0 (if y_t s = 4 then m1.1 5 2 else -1) (y_t s)) m1 := CR_Rd hc (fun a _ x2 => k4 a x2) k3 c1 ⟨_, hG.1, c2⟩ (fun z => by rw [if_pos z]) (fun z => if_neg z) (by rw [(k4 1 (by decide)).1]; exact hc.1.2.2.2.2.2.2.2)
  refine b_X9_text_45 (s272 hw) ⟨fun _ => ?_, fun z => absurd c1 z⟩
  refine c_keep2 (w := w) (by omega) (sOK_Rd hs _ _ _) hw h1 (fun m2 a1 a2 a3 => b_X9_text_70 (s272 hw) ?_)
  have p2 : pG m2 6 (s_G τ) := pG_eq c2 fun a x1 x2 => a3 a (by omega)
  refine k_take (s272 hw) (show sX1 6 from a_6) (by omega) (by omega) p2 (fun m3 d1 d2 => b_X9_text_81 (s272 hw) ?_)
  rw [d1.1]
  have h9 := CR_t (t := 0) (CR_g hw a1 d1 (by rw [show 287 + 140 * w = 272 + 140 * w + 15 by omega]; exact d2))
  exact K _ h9 (fC_trans (fC_fz k4 (by decide)) (fC_trans a2 (fC_trans (fC_fz d2 (by omega)) fC_t)))
end ZAs
