/-! text: the model's lines -/
theorem ite_u {P A C : Prop} (h : ¬ P) (a : A) : (¬ P → A) ∧ (P → C) := ⟨fun _ => a, fun z => absurd z h⟩
theorem ite_v {P A C : Prop} (h : P) (c : C) : (¬ P → A) ∧ (P → C) := ⟨fun z => absurd h z, fun _ => c⟩
section ZTl
variable {g : zG} {gr : Bool} {e : Nat} {Q : Option Value → zH → Prop} {m : zm} {b : Nat → Nat} {n : Nat}
/-- the model at a token -/
def dP (m : zm) (b : Nat → Nat) (n : Nat) (σ : Sr) : Prop := m.1 810 11 = nI n ∧ (∀ i, i < n → m.1 815 i = nI (b i)) ∧ pTk m b σ.1 ∧ m.1 810 17 = 0 ∧ m.1 810 20 = nI (s_p σ) ∧ pR m 816 0 (s_G σ)
abbrev fRm (m m' : zm) : Prop := fM [12, 13, 14, 15, 16, 17, 18, 20] [816] m m'
theorem fRm_tk {m m' : zm} (h : fTk m m') : fRm m m' := fM_mono h
def dE (m m' : zm) (f p : Nat) : Prop := m'.1 810 17 = nI f ∧ ¬ m'.1 810 17 = 0 ∧ m'.1 810 18 = nI p ∧ fRm m m'
/-- what a part of the model's reading leaves -/
def dR (m m' : zm) (b : Nat → Nat) (n : Nat) (r : Rs) : Prop := (∀ f p, r = .inl (f, p) → dE m m' f p) ∧ ∀ τ, r = .inr τ → dP m' b n τ ∧ fRm m m'
theorem dR_l {m m' : zm} {b : Nat → Nat} {n f p : Nat} (h : dE m m' f p) : dR m m' b n (.inl (f, p)) := ⟨fun f2 p2 e => (by cases e; exact h), fun τ e => (by cases e)⟩
theorem dR_r {m m' : zm} {b : Nat → Nat} {n : Nat} {τ : Sr} (h : dP m' b n τ) (f : fRm m m') : dR m m' b n (.inr τ) := ⟨fun f2 p2 e => (by cases e), fun τ2 e => (by cases e; exact ⟨h, f⟩)⟩
theorem dE_f {m m1 m' : zm} {f p : Nat} (h : fRm m m1) (h2 : dE m1 m' f p) : dE m m' f p := ⟨h2.1, h2.2.1, h2.2.2.1, fM_trans h h2.2.2.2⟩
theorem dR_f {m m1 m' : zm} {b : Nat → Nat} {n : Nat} {r : Rs} (f : fRm m m1) (h : dR m1 m' b n r) : dR m m' b n r := ⟨fun f2 p2 e => dE_f f (h.1 f2 p2 e), fun τ e => ⟨(h.2 τ e).1, fM_trans f (h.2 τ e).2⟩⟩
theorem d_errE (he : 2 ≤ e) (h : ¬ m.1 810 17 = 0) (K : Q none (mk m)) : Ok g gr e mX10_goesOn 0 0 [.ref 810] (mk m) Q := by
  obtain ⟨d, rfl⟩ := dn he
  exact b_X10_goesOn_0 (ite_u h K)
theorem d_goesOn (he : 2 ≤ e) (hb : ∀ i, b i < 256) (hn : n ≤ 400) {σ : Sr} (h : dP m b n σ) (hx : s_x σ ≤ n) (K : ∀ m', dP m' b n (s_n b n σ) → fRm m m' → Q none (mk m')) : Ok g gr e mX10_goesOn 0 0 [.ref 810] (mk m) Q := by
  obtain ⟨d, rfl⟩ := dn he
  refine b_X10_goesOn_0 (ite_v h.2.2.2.1 ?_)
  exact d_token (by omega) hb hn h.1 h.2.1 h.2.2.1.1 hx (fun m' a1 f => b_X10_goesOn_11 (K m' ⟨by rw [fM_2 f]; exact h.1, fun i hi => by rw [fM_1 f (a := 815) i]; exact h.2.1 i hi, a1, by rw [fM_2 f]; exact h.2.2.2.1, by rw [fM_2 f]; exact h.2.2.2.2.1, pR_eq h.2.2.2.2.2 (f.1 816 (by decide) (by decide))⟩ (fRm_tk f)))
theorem d_tokenP (he : 1 ≤ e) (hb : ∀ i, b i < 256) (hn : n ≤ 400) {σ : Sr} (h : dP m b n σ) (hx : s_x σ ≤ n) (K : ∀ m', dP m' b n (s_n b n σ) → fRm m m' → Q none (mk m')) : Ok g gr e mX10_token 0 0 [.ref 810] (mk m) Q :=
  d_token he hb hn h.1 h.2.1 h.2.2.1.1 hx (fun m' a1 f => K m' ⟨by rw [fM_2 f]; exact h.1, fun i hi => by rw [fM_1 f (a := 815) i]; exact h.2.1 i hi, a1, by rw [fM_2 f]; exact h.2.2.2.1, by rw [fM_2 f]; exact h.2.2.2.2.1, pR_eq h.2.2.2.2.2 (f.1 816 (by decide) (by decide))⟩ (fRm_tk f))
/-- a fault noted -/
def wF (m : zm) (c : Int32) : zm := wI (wI m 810 17 c) 810 18 ((wI m 810 17 c).1 810 13)
theorem wF_E {σ : Sr} (h : dP m b n σ) {f : Nat} {c : Int32} (hc : c = nI f) (hf : ¬ c = 0) : dE m (wF m c) f (s_a σ) :=
  ⟨((rI_n (by decide)).trans rI_s).trans hc, fun z => hf (((rI_n (by decide)).trans rI_s).symm.trans z), rI_s.trans ((rI_n (by decide)).trans h.2.2.1.2.1), fM_trans fM_f fM_f⟩
theorem wF_all {c : Int32} {P : zm → Prop} (K : P (wF m c)) : ∀ m1, m1 = wI m 810 17 c → ∀ m2, m2 = wI m1 810 18 (m1.1 810 13) → P m2 := by
  rintro m1 rfl m2 rfl; exact K
theorem wF_al2 {c : Int32} {P : zm → Prop} (K : P (wF m c)) : ∀ m1, m1 = wI m 810 17 c → P (wI m1 810 18 (m1.1 810 13)) := by
  rintro m1 rfl; exact K
theorem d_k1 {σ : Sr} (h : dP m b n σ) (k1 : s_k σ = 1) : m.1 810 14 = 2 ∧ m.1 810 16 = nI (s_d b σ) := ⟨by rw [h.2.2.1.2.2.1]; unfold mkd; rw [if_neg (by rw [show σ.1.1 = 1 from k1]; decide), if_pos k1]; rfl, h.2.2.1.2.2.2.2 k1⟩
theorem mkd_lt (t : Nat × Nat × Nat) : mkd t < 5 := by
  unfold mkd; repeat' split
  all_goals decide
theorem d_kn {σ : Sr} (h : dP m b n σ) (k1 : ¬ s_k σ = 1) : ¬ m.1 810 14 = 2 := by
  rw [h.2.2.1.2.2.1]
  have hm := mkd_lt σ.1
  have e2 : (nI (mkd σ.1) = 2 ↔ mkd σ.1 = 2) := nI_eq (b := 2) (by omega) (by decide)
  rw [e2]
  have k1 : ¬ σ.1.1 = 1 := k1
  unfold mkd
  repeat' split
  all_goals omega
theorem d_k0 {σ : Sr} (h : dP m b n σ) : (m.1 810 14 = 0 ↔ s_k σ = 0) ∧ (m.1 810 14 = 3 ↔ s_k σ = 3) := by
  rw [h.2.2.1.2.2.1]
  have hm := mkd_lt σ.1
  have e0 : (nI (mkd σ.1) = 0 ↔ mkd σ.1 = 0) := nI_eq (b := 0) (by omega) (by decide)
  have e3 : (nI (mkd σ.1) = 3 ↔ mkd σ.1 = 3) := nI_eq (b := 3) (by omega) (by decide)
  rw [e0, e3]
  show (_ ↔ σ.1.1 = 0) ∧ (_ ↔ σ.1.1 = 3)
  unfold mkd
  split
  · omega
  · split
    · omega
    · split
      · split <;> omega
      · split <;> omega
theorem d_in_y {σ : Sr} (h : dP m b n σ) (hW : srW b n σ) (hv : ¬ gn (s_G σ) ≤ s_d b σ) : tX10_in (nI (s_d b σ)) 0 (m.1 816 0 - 1) := in1_y (Nat.lt_of_not_le hv) h.2.2.2.2.2.1 (by have := hW.2.1.2.1.2; omega)
theorem d_in_n {σ : Sr} (h : dP m b n σ) (hW : srW b n σ) (k1 : s_k σ = 1) (hv : gn (s_G σ) ≤ s_d b σ) : ¬ tX10_in (nI (s_d b σ)) 0 (m.1 816 0 - 1) := in1_n (Or.inr ⟨i_nn (by have := s_d_le hW k1; omega), nI_le hv (by have := s_d_le hW k1; omega)⟩) h.2.2.2.2.2.1 (by have := hW.2.1.2.1.2; omega)
/-- two linked in what is read -/
theorem pR_J {G : Gr} (h : pR m 816 0 G) {a v k : Nat} (ha : a < 7) (hv : v < 7) : pR (wI (wI m 816 (8 + 7 * a + v) (nI k)) 816 (8 + 7 * v + a) (nI k)) 816 0 (gJ G a v k) := by
  refine ⟨(rI_n (by omega)).trans ((rI_n (by omega)).trans h.1), fun x hx => (rI_n (by omega)).trans ((rI_n (by omega)).trans (h.2.1 x hx)), fun x y hx hy => ?_⟩
  show (z_u _ _ _ _) _ _ = nI (if pr2 a v x y = true then k else gk G x y)
  by_cases z1 : x = v ∧ y = a
  · obtain ⟨rfl, rfl⟩ := z1
    rw [if_pos (by unfold pr2; simp)]
    exact if_pos ⟨rfl, by omega⟩
  · by_cases z2 : x = a ∧ y = v
    · obtain ⟨rfl, rfl⟩ := z2
      rw [if_pos (by unfold pr2; simp)]
      refine (rI_n (by omega)).trans ?_
      exact if_pos ⟨rfl, by omega⟩
    · rw [if_neg (by unfold pr2; simp; omega)]
      exact (rI_n (by omega)).trans ((rI_n (by omega)).trans (h.2.2 x y hx hy))
theorem dP_J {σ : Sr} (h : dP m b n σ) {a v k : Nat} (ha : a < 7) (hv : v < 7) : dP (wI (wI m 816 (8 + 7 * a + v) (nI k)) 816 (8 + 7 * v + a) (nI k)) b n (σ.1, gJ (s_G σ) a v k, s_p σ) ∧ fRm m (wI (wI m 816 (8 + 7 * a + v) (nI k)) 816 (8 + 7 * v + a) (nI k)) := by
  have f : fM [] [816] m (wI (wI m 816 (8 + 7 * a + v) (nI k)) 816 (8 + 7 * v + a) (nI k)) := fM_trans fM_r fM_r
  obtain ⟨c1, c2, ⟨c3, c4, c5, c6, c7⟩, c8, c9, c10⟩ := h
  exact ⟨⟨by rw [fM_2 f]; exact c1, fun i hi => by rw [fM_1 f (a := 815) i]; exact c2 i hi, ⟨by rw [fM_2 f]; exact c3, by rw [fM_2 f]; exact c4, by rw [fM_2 f]; exact c5, fun z => by rw [fM_2 f]; exact c6 z, fun z => by rw [fM_2 f]; exact c7 z⟩, by rw [fM_2 f]; exact c8, by rw [fM_2 f]; exact c9, pR_J c10 ha hv⟩, fM_mono f⟩
theorem e_8 (a v : Nat) : ((8 : Int32) + (7 : Int32) * nI a) + nI v = nI (8 + 7 * a + v) := by
  rw [show (7 : Int32) = nI 7 from rfl, pk_mul, show (8 : Int32) = nI 8 from rfl, nI_add, nI_add]
theorem d_readLinkedE {l : Int32} (he : 3 ≤ e) (h : ¬ m.1 810 17 = 0) (K : ∀ x, Q (some (.int x)) (mk m)) : Ok g gr e mX10_readLinked 0 0 [.ref 810, .int l] (mk m) Q := by
  obtain ⟨d, rfl⟩ := dn he
  have gE : Ok g gr (d + 2) mX10_goesOn 0 0 [.ref 810] (mk m) (fun r h2 => WP g gr (d + 3) mX10_readLinked 0 0 44 [.retAddr 0, .retAddr 0, .int (m.1 810 16)] (r.toList ++ []) h2 Q) := d_errE (by omega) h (b_X10_readLinked_44 (K _))
  exact b_X10_readLinked_0 ⟨fun _ => ⟨fun _ => ite_u h gE, fun _ => ite_u h gE⟩, fun _ => ite_u h gE⟩
theorem d_takesE {l1 l2 : Int32} (he : 3 ≤ e) (h : ¬ m.1 810 17 = 0) (K : ∀ x, Q (some (.int x)) (mk m)) : Ok g gr e mX10_takes 0 0 [.ref 810, .int l1, .int l2] (mk m) Q := by
  obtain ⟨d, rfl⟩ := dn he
  have gE : Ok g gr (d + 2) mX10_goesOn 0 0 [.ref 810] (mk m) (fun r h2 => WP g gr (d + 3) mX10_takes 0 0 11 [.retAddr 0, .retAddr 0, .retAddr 0, .int (m.1 810 16)] (r.toList ++ []) h2 Q) := d_errE (by omega) h (b_X10_takes_11 (K _))
  exact b_X10_takes_0 ⟨fun _ => ⟨fun _ => gE, fun _ => ite_u h gE⟩, fun _ => ite_u h gE⟩
theorem s_dT_le {σ : Sr} (h : tkW b n σ.1) (h1 : s_k σ = 1) : s_d b σ ≤ 9 := by
  have := h.2.2.2.2.1 h1
  unfold s_d; show b σ.1.2.1 - 48 ≤ 9; omega
theorem d_takesT {lo hi : Nat} (he : 3 ≤ e) (hb : ∀ i, b i < 256) (hn : n ≤ 400) {σ : Sr} (h : dP m b n σ) (hT : tkW b n σ.1) (hhi : hi < 2 ^ 31) (hlo : lo < 2 ^ 31) (K1 : ¬ s_k σ = 1 → ∀ m' x, dE m m' 1 (s_a σ) → Q (some (.int x)) (mk m')) (K2 : s_k σ = 1 → (s_d b σ < lo ∨ hi < s_d b σ) → ∀ m' x, dE m m' 2 (s_a σ) → Q (some (.int x)) (mk m')) (K : s_k σ = 1 → ¬ (s_d b σ < lo ∨ hi < s_d b σ) → ∀ m', dP m' b n (s_n b n σ) → fRm m m' → Q (some (.int (nI (s_d b σ)))) (mk m')) : Ok g gr e mX10_takes 0 0 [.ref 810, .int (nI lo), .int (nI hi)] (mk m) Q := by
  obtain ⟨d, rfl⟩ := dn he
  refine b_X10_takes_0 ?_
  by_cases k1 : s_k σ = 1
  · obtain ⟨e14, e16⟩ := d_k1 h k1
    have hd := s_dT_le hT k1
    refine ite_y e14 ?_
    rw [e16]
    by_cases hr : s_d b σ < lo ∨ hi < s_d b σ
    · refine ite_n (fun z => hr.elim (fun q => z.1 (nI_lt q (by omega))) (fun q => z.2 (nI_lt q (by omega)))) (ite_v h.2.2.2.1 (wF_all ?_))
      have hE := wF_E h (f := 2) (c := 2) rfl (by decide)
      exact d_errE (by omega) hE.2.1 (b_X10_takes_11 (K2 k1 hr _ _ hE))
    · refine ite_y ⟨nI_nlt (by omega) (by omega), nI_nlt (by omega) (by omega)⟩ ?_
      exact d_goesOn (by omega) hb hn h hT.2.1 (fun m' a f => b_X10_takes_11 (K k1 hr m' a f))
  · refine ite_n (d_kn h k1) (ite_v h.2.2.2.1 (wF_all ?_))
    have hE := wF_E h (f := 1) (c := 1) rfl (by decide)
    exact d_errE (by omega) hE.2.1 (b_X10_takes_11 (K1 k1 _ _ hE))
theorem d_takes {lo hi : Nat} (he : 3 ≤ e) (hb : ∀ i, b i < 256) (hn : n ≤ 400) {σ : Sr} (h : dP m b n σ) (hW : srW b n σ) (hhi : hi < 2 ^ 31) (hlo : lo < 2 ^ 31) (K1 : ¬ s_k σ = 1 → ∀ m' x, dE m m' 1 (s_a σ) → Q (some (.int x)) (mk m')) (K2 : s_k σ = 1 → (s_d b σ < lo ∨ hi < s_d b σ) → ∀ m' x, dE m m' 2 (s_a σ) → Q (some (.int x)) (mk m')) (K : s_k σ = 1 → ¬ (s_d b σ < lo ∨ hi < s_d b σ) → ∀ m', dP m' b n (s_n b n σ) → fRm m m' → Q (some (.int (nI (s_d b σ)))) (mk m')) : Ok g gr e mX10_takes 0 0 [.ref 810, .int (nI lo), .int (nI hi)] (mk m) Q := d_takesT he hb hn h hW.1 hhi hlo K1 K2 K
theorem d_readLinked {a : Nat} (he : 3 ≤ e) (hb : ∀ i, b i < 256) (hn : n ≤ 400) {σ : Sr} (h : dP m b n σ) (hW : srW b n σ) (ha : a < gn (s_G σ)) (K1 : ∀ x, rLnk b n a σ = .inl x → ∀ m' y, dE m m' x.1 x.2 → Q (some (.int y)) (mk m')) (K2 : ∀ τ, rLnk b n a σ = .inr τ → ∀ m', dP m' b n τ → fRm m m' → Q (some (.int (nI (s_d b σ)))) (mk m')) : Ok g gr e mX10_readLinked 0 0 [.ref 810, .int (nI a)] (mk m) Q := by
  obtain ⟨d, rfl⟩ := dn he
  have h7 := hW.2.1.2.1.2
  have h17 := h.2.2.2.1
  refine b_X10_readLinked_0 ?_
  by_cases k1 : s_k σ = 1
  · obtain ⟨e14, e16⟩ := d_k1 h k1
    have hd := s_d_le hW k1
    refine ite_y e14 ?_
    rw [e16]
    by_cases hv : gn (s_G σ) ≤ s_d b σ
    · refine ite_n (d_in_n h hW k1 hv) (ite_v h17 (wF_all ?_))
      have hE := wF_E h (f := 2) (c := 2) rfl (by decide)
      exact ite_u hE.2.1 (d_errE (by omega) hE.2.1 (b_X10_readLinked_44 (K1 _ (rLnk_2 k1 hv) _ _ hE)))
    · refine ite_y (d_in_y h hW hv) (ite_v h17 ?_)
      have hv' := Nat.lt_of_not_le hv
      by_cases z1 : a = s_d b σ
      · refine ite_y (congrArg nI z1) (wF_all ?_)
        have hE := wF_E h (f := 3) (c := 3) rfl (by decide)
        exact ite_u hE.2.1 (d_errE (by omega) hE.2.1 (b_X10_readLinked_44 (K1 _ (rLnk_3 k1 hv (Or.inl z1)) _ _ hE)))
      · refine ite_n (fun z => z1 ((nI_eq (by omega) (by omega)).mp z)) ⟨by rw [e_8]; exact pk_in (8 + 7 * a + s_d b σ) 57 (by omega), ?_⟩
        have eg : m.1 816 (8 + 7 * a + s_d b σ) = nI (gk (s_G σ) a (s_d b σ)) := by
          have := h.2.2.2.2.2.2.2 a (s_d b σ) (by omega) (by omega)
          rw [Nat.zero_add] at this
          exact this
        have hk := hW.2.1.1.2.1 a (s_d b σ)
        rw [e_8, e_8, cw (show 8 + 7 * a + s_d b σ < 2 ^ 31 by omega), cw (show 8 + 7 * s_d b σ + a < 2 ^ 31 by omega), eg]
        refine pk_eq (gk (s_G σ) a (s_d b σ)) 0 (fun y => ?_) (fun y => wF_all ?_)
        · rintro m1 rfl
          refine ⟨pk_in (8 + 7 * s_d b σ + a) 57 (by omega), ?_⟩
          rintro m2 rfl
          have hJ := dP_J h (a := a) (v := s_d b σ) (k := 1) (by omega) (by omega)
          exact d_goesOn (by omega) hb hn hJ.1 hW.1.2.1 (fun m' a1 f => b_X10_readLinked_44 (K2 _ (rLnk_0 k1 hv (by rintro (q | q); exact z1 q; exact q y)) m' a1 (fM_trans hJ.2 f)))
        · have hE := wF_E h (f := 3) (c := 3) rfl (by decide)
          exact ite_u hE.2.1 (d_errE (by omega) hE.2.1 (b_X10_readLinked_44 (K1 _ (rLnk_3 k1 hv (Or.inr y)) _ _ hE)))
  · refine ite_n (d_kn h k1) (ite_v h17 (wF_all ?_))
    have hE := wF_E h (f := 1) (c := 1) rfl (by decide)
    exact ite_u hE.2.1 (d_errE (by omega) hE.2.1 (b_X10_readLinked_44 (K1 _ (rLnk_1 k1) _ _ hE)))
end ZTl
