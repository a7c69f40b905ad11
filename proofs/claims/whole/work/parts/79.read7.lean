/-! text: the model's lines, all of them -/
theorem wv_0 (b : Nat → Nat) (a : Nat) : wvl b a 0 = 0 := rfl
theorem wv_s (b : Nat → Nat) (a l : Nat) : wvl b a (l + 1) = 32 * wvl b a l + (b (a + l) - 96) := rfl
theorem wv_lt {b : Nat → Nat} {a : Nat} : ∀ l, (∀ i, i < l → b (a + i) ≤ 122) → wvl b a l < 32 ^ l := by
  intro l
  induction l with
  | zero => intro _; rw [wv_0]; decide
  | succ l ih =>
    intro h
    have h1 := ih (fun i hi => h i (by omega))
    have h2 := h l (Nat.lt_succ_self _)
    rw [wv_s, Nat.pow_succ]
    omega
theorem wd_size {b : Nat → Nat} {a x : Nat} (h : ∀ i, a ≤ i → i < x → isLt (b i) = true) (hax : a < x) : (x - a ≤ 5 ∧ wvl b a (x - a) = 632645) ↔ (x - a = w_size.length ∧ ∀ i, i < w_size.length → b (a + i) = w_size.getD i 0) := by
  have hL : ∀ j, j < x - a → 97 ≤ b (a + j) ∧ b (a + j) ≤ 122 := fun j hj => isLt_e (h (a + j) (by omega) (by omega))
  generalize x - a = l at *
  have e5 : ∀ P : Nat → Prop, (∀ i, i < w_size.length → P i) ↔ (P 0 ∧ P 1 ∧ P 2 ∧ P 3) := fun P => ⟨fun q => ⟨q 0 (by decide), q 1 (by decide), q 2 (by decide), q 3 (by decide)⟩, fun q i hi => by
    have : i < 4 := hi
    rcases (show i = 0 ∨ i = 1 ∨ i = 2 ∨ i = 3 by omega) with rfl | rfl | rfl | rfl
    · exact q.1
    · exact q.2.1
    · exact q.2.2.1
    · exact q.2.2.2⟩
  rw [e5 (fun i => b (a + i) = w_size.getD i 0)]
  show _ ↔ (l = 4 ∧ b (a + 0) = 115 ∧ b (a + 1) = 105 ∧ b (a + 2) = 122 ∧ b (a + 3) = 101)
  constructor
  · rintro ⟨h5, hv⟩
    rcases (show l = 0 ∨ l = 1 ∨ l = 2 ∨ l = 3 ∨ l = 4 ∨ l = 5 by omega) with rfl | rfl | rfl | rfl | rfl | rfl
    all_goals simp only [wv_s, wv_0] at hv
    all_goals have q0 := hL 0
    all_goals have q1 := hL 1
    all_goals have q2 := hL 2
    all_goals have q3 := hL 3
    all_goals have q4 := hL 4
    all_goals omega
  · rintro ⟨rfl, hh⟩
    refine ⟨by decide, ?_⟩
    simp only [wv_s, wv_0]
    omega
theorem wd_paint {b : Nat → Nat} {a x : Nat} (h : ∀ i, a ≤ i → i < x → isLt (b i) = true) (hax : a < x) : (x - a ≤ 5 ∧ wvl b a (x - a) = 16819668) ↔ (x - a = w_paint.length ∧ ∀ i, i < w_paint.length → b (a + i) = w_paint.getD i 0) := by
  have hL : ∀ j, j < x - a → 97 ≤ b (a + j) ∧ b (a + j) ≤ 122 := fun j hj => isLt_e (h (a + j) (by omega) (by omega))
  generalize x - a = l at *
  have e5 : ∀ P : Nat → Prop, (∀ i, i < w_paint.length → P i) ↔ (P 0 ∧ P 1 ∧ P 2 ∧ P 3 ∧ P 4) := fun P => ⟨fun q => ⟨q 0 (by decide), q 1 (by decide), q 2 (by decide), q 3 (by decide), q 4 (by decide)⟩, fun q i hi => by
    have : i < 5 := hi
    rcases (show i = 0 ∨ i = 1 ∨ i = 2 ∨ i = 3 ∨ i = 4 by omega) with rfl | rfl | rfl | rfl | rfl
    · exact q.1
    · exact q.2.1
    · exact q.2.2.1
    · exact q.2.2.2.1
    · exact q.2.2.2.2⟩
  rw [e5 (fun i => b (a + i) = w_paint.getD i 0)]
  show _ ↔ (l = 5 ∧ b (a + 0) = 112 ∧ b (a + 1) = 97 ∧ b (a + 2) = 105 ∧ b (a + 3) = 110 ∧ b (a + 4) = 116)
  constructor
  · rintro ⟨h5, hv⟩
    rcases (show l = 0 ∨ l = 1 ∨ l = 2 ∨ l = 3 ∨ l = 4 ∨ l = 5 by omega) with rfl | rfl | rfl | rfl | rfl | rfl
    all_goals simp only [wv_s, wv_0] at hv
    all_goals have q0 := hL 0
    all_goals have q1 := hL 1
    all_goals have q2 := hL 2
    all_goals have q3 := hL 3
    all_goals have q4 := hL 4
    all_goals omega
  · rintro ⟨rfl, hh⟩
    refine ⟨by decide, ?_⟩
    simp only [wv_s, wv_0]
    omega
theorem wd_link {b : Nat → Nat} {a x : Nat} (h : ∀ i, a ≤ i → i < x → isLt (b i) = true) (hax : a < x) : (x - a ≤ 5 ∧ wvl b a (x - a) = 402891) ↔ (x - a = w_link.length ∧ ∀ i, i < w_link.length → b (a + i) = w_link.getD i 0) := by
  have hL : ∀ j, j < x - a → 97 ≤ b (a + j) ∧ b (a + j) ≤ 122 := fun j hj => isLt_e (h (a + j) (by omega) (by omega))
  generalize x - a = l at *
  have e5 : ∀ P : Nat → Prop, (∀ i, i < w_link.length → P i) ↔ (P 0 ∧ P 1 ∧ P 2 ∧ P 3) := fun P => ⟨fun q => ⟨q 0 (by decide), q 1 (by decide), q 2 (by decide), q 3 (by decide)⟩, fun q i hi => by
    have : i < 4 := hi
    rcases (show i = 0 ∨ i = 1 ∨ i = 2 ∨ i = 3 by omega) with rfl | rfl | rfl | rfl
    · exact q.1
    · exact q.2.1
    · exact q.2.2.1
    · exact q.2.2.2⟩
  rw [e5 (fun i => b (a + i) = w_link.getD i 0)]
  show _ ↔ (l = 4 ∧ b (a + 0) = 108 ∧ b (a + 1) = 105 ∧ b (a + 2) = 110 ∧ b (a + 3) = 107)
  constructor
  · rintro ⟨h5, hv⟩
    rcases (show l = 0 ∨ l = 1 ∨ l = 2 ∨ l = 3 ∨ l = 4 ∨ l = 5 by omega) with rfl | rfl | rfl | rfl | rfl | rfl
    all_goals simp only [wv_s, wv_0] at hv
    all_goals have q0 := hL 0
    all_goals have q1 := hL 1
    all_goals have q2 := hL 2
    all_goals have q3 := hL 3
    all_goals have q4 := hL 4
    all_goals omega
  · rintro ⟨rfl, hh⟩
    refine ⟨by decide, ?_⟩
    simp only [wv_s, wv_0]
    omega
theorem wd_path {b : Nat → Nat} {a x : Nat} (h : ∀ i, a ≤ i → i < x → isLt (b i) = true) (hax : a < x) : (x - a ≤ 5 ∧ wvl b a (x - a) = 525960) ↔ (x - a = w_path.length ∧ ∀ i, i < w_path.length → b (a + i) = w_path.getD i 0) := by
  have hL : ∀ j, j < x - a → 97 ≤ b (a + j) ∧ b (a + j) ≤ 122 := fun j hj => isLt_e (h (a + j) (by omega) (by omega))
  generalize x - a = l at *
  have e5 : ∀ P : Nat → Prop, (∀ i, i < w_path.length → P i) ↔ (P 0 ∧ P 1 ∧ P 2 ∧ P 3) := fun P => ⟨fun q => ⟨q 0 (by decide), q 1 (by decide), q 2 (by decide), q 3 (by decide)⟩, fun q i hi => by
    have : i < 4 := hi
    rcases (show i = 0 ∨ i = 1 ∨ i = 2 ∨ i = 3 by omega) with rfl | rfl | rfl | rfl
    · exact q.1
    · exact q.2.1
    · exact q.2.2.1
    · exact q.2.2.2⟩
  rw [e5 (fun i => b (a + i) = w_path.getD i 0)]
  show _ ↔ (l = 4 ∧ b (a + 0) = 112 ∧ b (a + 1) = 97 ∧ b (a + 2) = 116 ∧ b (a + 3) = 104)
  constructor
  · rintro ⟨h5, hv⟩
    rcases (show l = 0 ∨ l = 1 ∨ l = 2 ∨ l = 3 ∨ l = 4 ∨ l = 5 by omega) with rfl | rfl | rfl | rfl | rfl | rfl
    all_goals simp only [wv_s, wv_0] at hv
    all_goals have q0 := hL 0
    all_goals have q1 := hL 1
    all_goals have q2 := hL 2
    all_goals have q3 := hL 3
    all_goals have q4 := hL 4
    all_goals omega
  · rintro ⟨rfl, hh⟩
    refine ⟨by decide, ?_⟩
    simp only [wv_s, wv_0]
    omega
theorem wd_ring {b : Nat → Nat} {a x : Nat} (h : ∀ i, a ≤ i → i < x → isLt (b i) = true) (hax : a < x) : (x - a ≤ 5 ∧ wvl b a (x - a) = 599495) ↔ (x - a = w_ring.length ∧ ∀ i, i < w_ring.length → b (a + i) = w_ring.getD i 0) := by
  have hL : ∀ j, j < x - a → 97 ≤ b (a + j) ∧ b (a + j) ≤ 122 := fun j hj => isLt_e (h (a + j) (by omega) (by omega))
  generalize x - a = l at *
  have e5 : ∀ P : Nat → Prop, (∀ i, i < w_ring.length → P i) ↔ (P 0 ∧ P 1 ∧ P 2 ∧ P 3) := fun P => ⟨fun q => ⟨q 0 (by decide), q 1 (by decide), q 2 (by decide), q 3 (by decide)⟩, fun q i hi => by
    have : i < 4 := hi
    rcases (show i = 0 ∨ i = 1 ∨ i = 2 ∨ i = 3 by omega) with rfl | rfl | rfl | rfl
    · exact q.1
    · exact q.2.1
    · exact q.2.2.1
    · exact q.2.2.2⟩
  rw [e5 (fun i => b (a + i) = w_ring.getD i 0)]
  show _ ↔ (l = 4 ∧ b (a + 0) = 114 ∧ b (a + 1) = 105 ∧ b (a + 2) = 110 ∧ b (a + 3) = 103)
  constructor
  · rintro ⟨h5, hv⟩
    rcases (show l = 0 ∨ l = 1 ∨ l = 2 ∨ l = 3 ∨ l = 4 ∨ l = 5 by omega) with rfl | rfl | rfl | rfl | rfl | rfl
    all_goals simp only [wv_s, wv_0] at hv
    all_goals have q0 := hL 0
    all_goals have q1 := hL 1
    all_goals have q2 := hL 2
    all_goals have q3 := hL 3
    all_goals have q4 := hL 4
    all_goals omega
  · rintro ⟨rfl, hh⟩
    refine ⟨by decide, ?_⟩
    simp only [wv_s, wv_0]
    omega
section ZTm
variable {g : zG} {gr : Bool} {e : Nat} {Q : Option Value → zH → Prop} {m : zm} {b : Nat → Nat} {n : Nat}
theorem d_isWd {σ : Sr} (h : dP m b n σ) (hT : tkW b n σ.1) {w : List Nat} {V : Nat} {c : Int32} (hc : c = nI V) (hV : V < 2 ^ 25) (key : ∀ {a x : Nat}, (∀ i, a ≤ i → i < x → isLt (b i) = true) → a < x → ((x - a ≤ 5 ∧ wvl b a (x - a) = V) ↔ (x - a = w.length ∧ ∀ i, i < w.length → b (a + i) = w.getD i 0))) : tX10_isWord m c ↔ isWd b σ w := by
  subst hc
  have hm := mkd_lt σ.1
  have e1 : (m.1 810 14 = 1 ↔ mkd σ.1 = 1) := by rw [h.2.2.1.2.2.1]; exact nI_eq (b := 1) (by omega) (by decide)
  have em : mkd σ.1 = 1 ↔ (σ.1.1 = 2 ∧ σ.1.2.2 - σ.1.2.1 ≤ 5) := by
    unfold mkd
    repeat' split
    all_goals omega
  show (m.1 810 17 = 0 ∧ (m.1 810 14 = 1 ∧ m.1 810 15 = nI V)) ↔ (σ.1.1 = 2 ∧ (σ.1.2.2 - σ.1.2.1 = w.length ∧ ∀ i, i < w.length → b (σ.1.2.1 + i) = w.getD i 0))
  constructor
  · rintro ⟨-, h1, h2⟩
    have m1 := e1.mp h1
    have m2 := em.mp m1
    rw [h.2.2.1.2.2.2.1 m1] at h2
    have hlt := wv_lt (b := b) (a := σ.1.2.1) (σ.1.2.2 - σ.1.2.1) (fun i hi => (isLt_e (hT.2.2.2.2.2.1 m2.1 (σ.1.2.1 + i) (by omega) (by omega))).2)
    have hp : 32 ^ (σ.1.2.2 - σ.1.2.1) ≤ 32 ^ 5 := Nat.pow_le_pow_right (by decide) m2.2
    have hq : (32 : Nat) ^ 5 = 2 ^ 25 := by decide
    have h3 := (nI_eq (by omega) (by omega)).mp h2
    exact ⟨m2.1, (key (hT.2.2.2.2.2.1 m2.1) (hT.2.2.1 (by omega)).2).mp ⟨m2.2, h3⟩⟩
  · rintro ⟨k2, h2⟩
    have h3 := (key (hT.2.2.2.2.2.1 k2) (hT.2.2.1 (by omega)).2).mpr h2
    have m1 := em.mpr ⟨k2, h3.1⟩
    exact ⟨h.2.2.2.1, e1.mpr m1, by rw [h.2.2.1.2.2.2.1 m1, h3.2]⟩
theorem d_w_size {σ : Sr} (h : dP m b n σ) (hW : srW b n σ) : tX10_isWord m (fSpell 19 9 26 5 0) ↔ isWd b σ w_size   := d_isWd h hW.1 (V := 632645) (by decide) (by decide) wd_size
theorem d_w_paint {σ : Sr} (h : dP m b n σ) (hW : srW b n σ) : tX10_isWord m (fSpell 16 1 9 14 20) ↔ isWd b σ w_paint   := d_isWd h hW.1 (V := 16819668) (by decide) (by decide) wd_paint
theorem d_w_link {σ : Sr} (h : dP m b n σ) (hW : srW b n σ) : tX10_isWord m (fSpell 12 9 14 11 0) ↔ isWd b σ w_link   := d_isWd h hW.1 (V := 402891) (by decide) (by decide) wd_link
theorem d_w_path {σ : Sr} (h : dP m b n σ) (hW : srW b n σ) : tX10_isWord m (fSpell 16 1 20 8 0) ↔ isWd b σ w_path   := d_isWd h hW.1 (V := 525960) (by decide) (by decide) wd_path
theorem d_w_ring {σ : Sr} (h : dP m b n σ) (hW : srW b n σ) : tX10_isWord m (fSpell 18 9 14 7 0) ↔ isWd b σ w_ring   := d_isWd h hW.1 (V := 599495) (by decide) (by decide) wd_ring
theorem d_w_sizeT {σ : Sr} (h : dP m b n σ) (hT : tkW b n σ.1) : tX10_isWord m (fSpell 19 9 26 5 0) ↔ isWd b σ w_size := d_isWd h hT (V := 632645) (by decide) (by decide) wd_size
theorem d_has {p v : Nat} (hp : p < 2 ^ 31) (hv : v < 31) : tX10_has (nI p) (nI v) ↔ p.testBit v = true := by
  have h := i_in hp hv
  unfold tX9_in at h
  unfold tX10_has
  rw [← h]
  obtain ⟨j, hj, e⟩ := pk_andE (nI p >>> (nI v &&& 31)) (m := 1) 1 (by decide)
  rw [e]
  have e1 : (nI j = 1 ↔ j = 1) := nI_eq (b := 1) (by omega) (by decide)
  have e0 : (nI j = 0 ↔ j = 0) := nI_eq (b := 0) (by omega) (by decide)
  rw [e1, e0]
  omega
theorem d_paint_32E {d : Nat} {l : Int32} (h : ¬ m.1 810 17 = 0) (K : Q none (mk m)) : WP g gr (d + 4) mX10_paintLine 0 0 32 [.ref 810, .int l, .retAddr 0] [] (mk m) Q :=
  b_X10_paintLine_32 (d_takesE (by omega) h fun x => b_X10_paintLine_39 (ite_u h K))
theorem d_paintLine (he : 4 ≤ e) (hb : ∀ i, b i < 256) (hn : n ≤ 400) {σ : Sr} (h : dP m b n σ) (hW : srW b n σ) (K : ∀ m', dR m m' b n (rPaint b n σ) → Q none (mk m')) : Ok g gr e mX10_paintLine 0 0 [.ref 810] (mk m) Q := by
  obtain ⟨d, rfl⟩ := dn he
  have h7 := hW.2.1.2.1.2
  have h17 := h.2.2.2.1
  have hp8 := hW.2.2
  unfold rPaint at K
  refine b_X10_paintLine_0 ?_
  by_cases k1 : s_k σ = 1
  · rw [if_neg (fun z => z k1)] at K
    obtain ⟨e14, e16⟩ := d_k1 h k1
    have hd := s_d_le hW k1
    refine ite_y e14 ?_
    rw [e16]
    by_cases hv : gn (s_G σ) ≤ s_d b σ
    · rw [if_pos hv] at K
      refine ite_n (d_in_n h hW k1 hv) (ite_v h17 (wF_all ?_))
      have hE := wF_E h (f := 2) (c := 2) rfl (by decide)
      exact ite_u hE.2.1 (d_errE (by omega) hE.2.1 (d_paint_32E hE.2.1 (K _ (dR_l hE))))
    · rw [if_neg hv] at K
      refine ite_y (d_in_y h hW hv) (ite_v h17 ?_)
      have hv' := Nat.lt_of_not_le hv
      rw [h.2.2.2.2.1]
      by_cases hp : (s_p σ).testBit (s_d b σ) = true
      · rw [if_pos hp] at K
        refine ite_y ((d_has (by omega) (by omega)).mpr hp) (wF_all ?_)
        have hE := wF_E h (f := 3) (c := 3) rfl (by decide)
        exact d_errE (by omega) hE.2.1 (d_paint_32E hE.2.1 (K _ (dR_l hE)))
      · rw [if_neg hp] at K
        refine ite_n (fun z => hp ((d_has (by omega) (by omega)).mp z)) ?_
        have hW1 := (s_n_W hW).1
        refine d_goesOn (by omega) hb hn h hW.1.2.1 (fun m1 h1 f1 => b_X10_paintLine_32 ?_)
        refine d_takes (lo := 0) (hi := 9) (by omega) hb hn h1 hW1 (by decide) (by decide) (fun k2 m' x hE => b_X10_paintLine_39 (ite_u hE.2.1 ?_)) (fun k2 hr m' x hE => absurd (s_d_le hW1 k2) (by omega)) (fun k2 hr m2 h2 f2 => b_X10_paintLine_39 (ite_v h2.2.2.2.1 ?_))
        · rw [if_pos k2] at K
          exact K m' (dR_f f1 (dR_l hE))
        · rw [if_neg (fun z => z k2)] at K
          rw [h2.2.2.2.2.1, i_sh1 (by omega), fa_or, show (1 : Int32) = nI 1 from rfl, nI_add, cw (show 1 + s_d b σ < 2 ^ 31 by omega)]
          rintro m3 rfl
          refine ⟨pk_in (1 + s_d b σ) 57 (by omega), K _ (dR_r ?_ (fM_trans f1 (fM_trans f2 (fM_trans fM_f fM_r))))⟩
          obtain ⟨c1, c2, ⟨c3, c4, c5, c6, c7⟩, c8, c9, c10⟩ := h2
          refine ⟨(rI_n (by omega)).trans ((rI_n (by decide)).trans c1), fun i hi => (rI_n (by omega)).trans ((rI_n (by omega)).trans (c2 i hi)), ⟨(rI_n (by omega)).trans ((rI_n (by decide)).trans c3), (rI_n (by omega)).trans ((rI_n (by decide)).trans c4), (rI_n (by omega)).trans ((rI_n (by decide)).trans c5), fun z => (rI_n (by omega)).trans ((rI_n (by decide)).trans (c6 z)), fun z => (rI_n (by omega)).trans ((rI_n (by decide)).trans (c7 z))⟩, (rI_n (by omega)).trans ((rI_n (by decide)).trans c8), (rI_n (by omega)).trans rI_s, (rI_n (by omega)).trans ((rI_n (by omega)).trans c10.1), fun x hx => ?_, fun x y hx hy => (rI_n (by omega)).trans ((rI_n (by omega)).trans (c10.2.2 x y hx hy))⟩
          have hcx := c10.2.1 x hx
          by_cases z : x = s_d b σ
          · subst z
            rw [show 0 + 1 + s_d b σ = 1 + s_d b σ by omega]
            refine rI_s.trans ?_
            exact (congrArg nI (gP_s (s_G σ) (s_d b σ) (s_d b (s_n b n σ)))).symm
          · refine (rI_n (by omega)).trans ((rI_n (by omega)).trans (hcx.trans ?_))
            exact (congrArg nI (gP_n (G := s_G σ) (c := s_d b (s_n b n σ)) z)).symm
  · rw [if_pos k1] at K
    refine ite_n (d_kn h k1) (ite_v h17 (wF_all ?_))
    have hE := wF_E h (f := 1) (c := 1) rfl (by decide)
    exact ite_u hE.2.1 (d_errE (by omega) hE.2.1 (d_paint_32E hE.2.1 (K _ (dR_l hE))))
theorem d_link_9E {d : Nat} {l : Int32} (h : ¬ m.1 810 17 = 0) (K : Q none (mk m)) : WP g gr (d + 4) mX10_linkLine 0 0 9 [.ref 810, .int l, .retAddr 0, .retAddr 0] [] (mk m) Q :=
  b_X10_linkLine_9 (d_readLinkedE (by omega) h fun x => b_X10_linkLine_14 (ite_n (fun z => h z.1) K))
theorem d_linkLine (he : 4 ≤ e) (hb : ∀ i, b i < 256) (hn : n ≤ 400) {σ : Sr} (h : dP m b n σ) (hW : srW b n σ) (K : ∀ m', dR m m' b n (rLink b n σ) → Q none (mk m')) : Ok g gr e mX10_linkLine 0 0 [.ref 810] (mk m) Q := by
  obtain ⟨d, rfl⟩ := dn he
  have h7 := hW.2.1.2.1.2
  have h17 := h.2.2.2.1
  refine b_X10_linkLine_0 ?_
  by_cases k1 : s_k σ = 1
  · obtain ⟨e14, e16⟩ := d_k1 h k1
    have hd := s_d_le hW k1
    refine ite_y e14 ?_
    rw [e16]
    by_cases hv : gn (s_G σ) ≤ s_d b σ
    · rw [rLink_2 k1 hv] at K
      refine ite_n (d_in_n h hW k1 hv) (ite_v h17 (wF_all ?_))
      have hE := wF_E h (f := 2) (c := 2) rfl (by decide)
      exact d_errE (by omega) hE.2.1 (d_link_9E hE.2.1 (K _ (dR_l hE)))
    · refine ite_y (d_in_y h hW hv) ?_
      have hv' := Nat.lt_of_not_le hv
      have hW1 := (s_n_W hW).1
      refine d_goesOn (by omega) hb hn h hW.1.2.1 (fun m1 h1 f1 => b_X10_linkLine_9 ?_)
      refine d_readLinked (by omega) hb hn h1 hW1 hv' (fun x er m2 y hE => b_X10_linkLine_14 (ite_n (fun z => hE.2.1 z.1) ?_)) (fun τ er m2 h2 f2 => b_X10_linkLine_14 ?_)
      · rw [rLink_e k1 hv er] at K
        exact K m2 (dR_f f1 (dR_l hE))
      · have w := rLnk_W (a := s_d b σ) hW1 hv'
        have hWt := (w.1 τ er).1
        have w2 := w.2 τ er
        have hg : gn (s_G τ) = gn (s_G σ) := w2.2.2
        have hv2 : s_d b (s_n b n σ) < gn (s_G σ) := w2.2.1
        by_cases k3 : s_k τ = 1
        · obtain ⟨e142, -⟩ := d_k1 h2 k3
          refine ite_y ⟨h2.2.2.2.1, e142⟩ ?_
          refine d_takes (lo := 1) (hi := 3) (by omega) hb hn h2 hWt (by decide) (by decide) (fun k4 => absurd k3 k4) (fun _ hr m3 x hE => b_X10_linkLine_28 (ite_u hE.2.1 ?_)) (fun _ hr m3 h3 f3 => b_X10_linkLine_28 (ite_v h3.2.2.2.1 ?_))
          · rw [rLink_b k1 hv er k3 hr] at K
            exact K m3 (dR_f (fM_trans f1 f2) (dR_l hE))
          · rw [rLink_c k1 hv er k3 hr] at K
            rw [e_8, e_8, cw (show 8 + 7 * s_d b σ + s_d b (s_n b n σ) < 2 ^ 31 by omega), cw (show 8 + 7 * s_d b (s_n b n σ) + s_d b σ < 2 ^ 31 by omega)]
            refine ⟨pk_in (8 + 7 * s_d b σ + s_d b (s_n b n σ)) 57 (by omega), ?_⟩
            rintro m4 rfl
            have hJ := dP_J h3 (a := s_d b σ) (v := s_d b (s_n b n σ)) (k := s_d b τ) (by omega) (by omega)
            exact ⟨pk_in (8 + 7 * s_d b (s_n b n σ) + s_d b σ) 57 (by omega), K _ (dR_r hJ.1 (fM_trans f1 (fM_trans f2 (fM_trans f3 hJ.2))))⟩
        · rw [rLink_a k1 hv er k3] at K
          exact ite_n (fun z => d_kn h2 k3 z.2) (K m2 (dR_r h2 (fM_trans f1 f2)))
  · rw [rLink_1 k1] at K
    refine ite_n (d_kn h k1) (ite_v h17 (wF_all ?_))
    have hE := wF_E h (f := 1) (c := 1) rfl (by decide)
    exact d_errE (by omega) hE.2.1 (d_link_9E hE.2.1 (K _ (dR_l hE)))
/-- a line's result: a ring that a wrong token stops short has its fault at once -/
def dL (m m' : zm) (b : Nat → Nat) (n : Nat) (r : Rs) : Prop := (∀ f p, r = .inl (f, p) → dE m m' f p) ∧ ∀ τ, r = .inr τ → (dP m' b n τ ∧ fRm m m') ∨ (¬ s_k τ = 3 ∧ ¬ s_k τ = 0 ∧ dE m m' 1 (s_a τ))
theorem dL_R {m m' : zm} {b : Nat → Nat} {n : Nat} {r : Rs} (h : dR m m' b n r) : dL m m' b n r := ⟨h.1, fun τ e => Or.inl (h.2 τ e)⟩
theorem dL_f {m m1 m' : zm} {b : Nat → Nat} {n : Nat} {r : Rs} (f : fRm m m1) (h : dL m1 m' b n r) : dL m m' b n r := ⟨fun f2 p2 e => dE_f f (h.1 f2 p2 e), fun τ e => (h.2 τ e).elim (fun z => Or.inl ⟨z.1, fM_trans f z.2⟩) (fun z => Or.inr ⟨z.1, z.2.1, dE_f f z.2.2⟩)⟩
theorem d_path_25E {d : Nat} {l1 l2 l3 : Int32} (h : ¬ m.1 810 17 = 0) (K : Q none (mk m)) : WP g gr (d + 4) mX10_pathLine 0 0 25 [.ref 810, .int l1, .int l2, .int l3] [] (mk m) Q :=
  b_X10_pathLine_25 (ite_n (fun z => h z.1) ⟨fun _ => K, fun _ => ite_n h K⟩)
theorem d_path_14E {d : Nat} {l1 l2 s0 : Int32} (h : ¬ m.1 810 17 = 0) (K : Q none (mk m)) : WP g gr (d + 4) mX10_pathLine 0 0 14 [.ref 810, .int l1, .int l2, .retAddr 0] [.int s0] (mk m) Q :=
  b_X10_pathLine_14 ⟨fun _ => d_path_25E h K, fun _ => d_readLinkedE (by omega) h fun x => b_X10_pathLine_24 (d_path_25E h K)⟩
theorem d_path_9E {d : Nat} {l1 l2 : Int32} (h : ¬ m.1 810 17 = 0) (K : Q none (mk m)) : WP g gr (d + 4) mX10_pathLine 0 0 9 [.ref 810, .int l1, .int l2, .retAddr 0] [] (mk m) Q :=
  b_X10_pathLine_9 (d_readLinkedE (by omega) h fun x => d_path_14E h K)
theorem d_chn {d first : Nat} {ring : Bool} (hb : ∀ i, b i < 256) (hn : n ≤ 400) : ∀ (f i last : Nat) (σ : Sr) (m : zm), i + f = 402 → i ≤ s_a σ → dP m b n σ → srW b n σ → first < gn (s_G σ) → last < gn (s_G σ) → (∀ m', dL m m' b n (rChn b n f 0 first last ring σ) → Q none (mk m')) → WP g gr (d + 4) mX10_pathLine 0 0 25 [.ref 810, .int (nI (rn ring)), .int (nI first), .int (nI last)] [] (mk m) Q := by
  intro f
  induction f with
  | zero =>
    intro i last σ m hif hia h hW hf hl K
    have := hW.1.1
    have := hW.1.2.1
    have : s_a σ = σ.1.2.1 := rfl
    omega
  | succ f ih =>
    intro i last σ m hif hia h hW hf hl K
    have h7 := hW.2.1.2.1.2
    by_cases k1 : s_k σ = 1
    · obtain ⟨e14, -⟩ := d_k1 h k1
      refine b_X10_pathLine_25 (ite_y ⟨h.2.2.2.1, e14⟩ ?_)
      refine d_readLinked (by omega) hb hn h hW hl (fun x er m2 y hE => b_X10_pathLine_37 (d_path_25E hE.2.1 ?_)) (fun τ er m2 h2 f2 => b_X10_pathLine_37 ?_)
      · rw [rChn_e (Or.inr k1) er] at K
        exact K m2 (dL_R (dR_l hE))
      · rw [rChn_i (Or.inr k1) er] at K
        have w := rLnk_W (a := last) hW hl
        have w1 := w.1 τ er
        have w2 := w.2 τ er
        exact ih (i + 1) (s_d b σ) τ m2 (by omega) (by omega) h2 w1.1 (by rw [w2.2.2]; exact hf) (by rw [w2.2.2]; exact w2.2.1) (fun m' hr => K m' (dL_f f2 hr))
    · rw [rChn_0 (fun z => z.elim (fun q => absurd q (by decide)) k1)] at K
      refine b_X10_pathLine_25 (ite_n (fun z => d_kn h k1 z.2) ?_)
      cases ring with
      | false =>
        rw [rEnd_0 (fun z => by cases z.1)] at K
        exact ⟨fun _ => K m (dL_R (dR_r h (fM_refl _ _ _))), fun z => absurd rfl z⟩
      | true =>
        refine ⟨fun z => absurd z (by decide), fun _ => ite_y h.2.2.2.1 ?_⟩
        have hk := hW.2.1.1.2.1 last first
        have eg : m.1 816 (8 + 7 * last + first) = nI (gk (s_G σ) last first) := by
          have := h.2.2.2.2.2.2.2 last first (by omega) (by omega)
          rw [Nat.zero_add] at this
          exact this
        have two : (s_k σ = 3 ∨ s_k σ = 0) → ((nI last = nI first → ∀ m1, m1 = wI m 810 17 (3 : Int32) → Q none (mk (wI m1 810 18 (m1.1 810 13)))) ∧ (¬ nI last = nI first → (vp_in (nI (8 + 7 * last + first)) 57 ∧ ((m.1 816 (8 + 7 * last + first) = 0 → ∀ m1, m1 = wI m 816 (8 + 7 * last + first) (1 : Int32) → (vp_in (nI (8 + 7 * first + last)) 57 ∧ Q none (mk (wI m1 816 (8 + 7 * first + last) (1 : Int32))))) ∧ (¬ m.1 816 (8 + 7 * last + first) = 0 → ∀ m1, m1 = wI m 810 17 (3 : Int32) → Q none (mk (wI m1 810 18 (m1.1 810 13)))))))) := fun c => by
          rw [rEnd_1 ⟨rfl, c⟩] at K
          have hE := wF_E h (f := 3) (c := 3) rfl (by decide)
          refine pk_eq last first (fun z => wF_al2 (P := fun m' => Q none (mk m')) (K _ (by rw [if_pos (Or.inl z)]; exact dL_R (dR_l hE)))) (fun z => ⟨pk_in (8 + 7 * last + first) 57 (by omega), ?_⟩)
          rw [eg]
          refine pk_eq (gk (s_G σ) last first) 0 (fun y => ?_) (fun y => wF_al2 (P := fun m' => Q none (mk m')) (K _ (by rw [if_pos (Or.inr y)]; exact dL_R (dR_l hE))))
          rintro m1 rfl
          have hJ := dP_J h (a := last) (v := first) (k := 1) (by omega) (by omega)
          exact ⟨pk_in (8 + 7 * first + last) 57 (by omega), K _ (by rw [if_neg (by rintro (q | q); exact z q; exact q y)]; exact dL_R (dR_r hJ.1 hJ.2))⟩
        rw [e_8, e_8, cw (show 8 + 7 * last + first < 2 ^ 31 by omega), cw (show 8 + 7 * first + last < 2 ^ 31 by omega)]
        by_cases k3 : s_k σ = 3
        · exact ite_y ((d_k0 h).2.mpr k3) (two (Or.inl k3))
        · refine ite_n (fun z => k3 ((d_k0 h).2.mp z)) ?_
          by_cases k0 : s_k σ = 0
          · exact ite_y ((d_k0 h).1.mpr k0) (two (Or.inr k0))
          · refine ite_n (fun z => k0 ((d_k0 h).1.mp z)) (wF_al2 (P := fun m' => Q none (mk m')) ?_)
            have hE := wF_E h (f := 1) (c := 1) rfl (by decide)
            rw [rEnd_0 (fun z => z.2.elim k3 k0)] at K
            exact K _ ⟨fun f p z => (by cases z), fun τ z => (by cases z; exact Or.inr ⟨k3, k0, hE⟩)⟩
theorem d_pathLine (he : 4 ≤ e) (hb : ∀ i, b i < 256) (hn : n ≤ 400) {ring : Bool} {σ : Sr} (h : dP m b n σ) (hW : srW b n σ) (K : ∀ m', dL m m' b n (rChain b n (1 + rn ring) ring σ) → Q none (mk m')) : Ok g gr e mX10_pathLine 0 0 [.ref 810, .int (nI (rn ring))] (mk m) Q := by
  obtain ⟨d, rfl⟩ := dn he
  have h7 := hW.2.1.2.1.2
  have h17 := h.2.2.2.1
  unfold rChain at K
  refine b_X10_pathLine_0 ?_
  by_cases k1 : s_k σ = 1
  · rw [if_neg (fun z => z k1)] at K
    obtain ⟨e14, e16⟩ := d_k1 h k1
    have hd := s_d_le hW k1
    refine ite_y e14 ?_
    rw [e16]
    by_cases hv : gn (s_G σ) ≤ s_d b σ
    · rw [if_pos hv] at K
      refine ite_n (d_in_n h hW k1 hv) (ite_v h17 (wF_all ?_))
      have hE := wF_E h (f := 2) (c := 2) rfl (by decide)
      exact d_errE (by omega) hE.2.1 (d_path_9E hE.2.1 (K _ (dL_R (dR_l hE))))
    · rw [if_neg hv] at K
      refine ite_y (d_in_y h hW hv) ?_
      have hv' := Nat.lt_of_not_le hv
      have hW1 := s_n_W hW
      have h6 : s_a σ < s_x σ := (hW.1.2.2.1 (by show σ.1.1 ≠ 0; rw [show σ.1.1 = 1 from k1]; decide)).2
      refine d_goesOn (by omega) hb hn h hW.1.2.1 (fun m1 h1 f1 => b_X10_pathLine_9 ?_)
      have c1 : 0 < 1 + rn ring ∨ s_k (s_n b n σ) = 1 := Or.inl (by omega)
      refine d_readLinked (by omega) hb hn h1 hW1.1 hv' (fun x er m2 y hE => d_path_14E hE.2.1 ?_) (fun τ er m2 h2 f2 => b_X10_pathLine_14 ?_)
      · rw [rChn_e c1 er] at K
        exact K m2 (dL_f f1 (dL_R (dR_l hE)))
      · rw [rChn_i c1 er] at K
        have w := rLnk_W (a := s_d b σ) hW1.1 hv'
        have w1 := w.1 τ er
        have w2 := w.2 τ er
        have hg : gn (s_G τ) = gn (s_G σ) := w2.2.2
        have hv2 : s_d b (s_n b n σ) < gn (s_G σ) := w2.2.1
        have ff := fM_trans f1 f2
        have hs2 : 2 ≤ s_a τ := by have := hW1.2; omega
        cases ring with
        | false =>
          refine ⟨fun _ => ?_, fun z => absurd rfl z⟩
          exact d_chn hb hn 400 2 _ τ m2 (by omega) hs2 h2 w1.1 (by rw [hg]; exact hv') (by rw [hg]; exact hv2) (fun m' hr => K m' (dL_f ff hr))
        | true =>
          refine ⟨fun z => absurd z (by decide), fun _ => ?_⟩
          have c2 : 0 < 1 + rn true - 1 ∨ s_k τ = 1 := Or.inl (by decide)
          refine d_readLinked (by omega) hb hn h2 w1.1 (by rw [hg]; exact hv2) (fun x er2 m3 y hE => b_X10_pathLine_24 (d_path_25E hE.2.1 ?_)) (fun υ er2 m3 h3 f3 => b_X10_pathLine_24 ?_)
          · rw [rChn_e c2 er2] at K
            exact K m3 (dL_f ff (dL_R (dR_l hE)))
          · rw [rChn_i c2 er2] at K
            have v := rLnk_W (a := s_d b (s_n b n σ)) w1.1 (by rw [hg]; exact hv2)
            have v1 := v.1 υ er2
            have v2 := v.2 υ er2
            exact d_chn hb hn 399 3 _ υ m3 (by omega) (by omega) h3 v1.1 (by rw [v2.2.2, hg]; exact hv') (by rw [v2.2.2]; exact v2.2.1) (fun m' hr => K m' (dL_f (fM_trans ff f3) hr))
  · rw [if_pos k1] at K
    refine ite_n (d_kn h k1) (ite_v h17 (wF_all ?_))
    have hE := wF_E h (f := 1) (c := 1) rfl (by decide)
    exact d_errE (by omega) hE.2.1 (d_path_9E hE.2.1 (K _ (dL_R (dR_l hE))))
theorem d_line (he : 5 ≤ e) (hb : ∀ i, b i < 256) (hn : n ≤ 400) {σ : Sr} (h : dP m b n σ) (hW : srW b n σ) (K : ∀ m', dL m m' b n (rLine b n σ) → Q none (mk m')) : Ok g gr e mX10_line 0 0 [.ref 810] (mk m) Q := by
  classical
  obtain ⟨d, rfl⟩ := dn he
  unfold rLine at K
  have hW1 := (s_n_W hW).1
  refine b_X10_line_0 ?_
  by_cases z1 : isWd b σ w_paint
  · rw [if_pos z1] at K
    refine ite_y ((d_w_paint h hW).mpr z1) (d_tokenP (by omega) hb hn h hW.1.2.1 (fun m1 h1 f1 => b_X10_line_23 ?_))
    exact d_paintLine (by omega) hb hn h1 hW1 (fun m' hr => b_X10_line_27 (K m' (dL_f f1 (dL_R hr))))
  · rw [if_neg z1] at K
    refine ite_n (fun q => z1 ((d_w_paint h hW).mp q)) ?_
    by_cases z2 : isWd b σ w_link
    · rw [if_pos z2] at K
      refine ite_y ((d_w_link h hW).mpr z2) (d_tokenP (by omega) hb hn h hW.1.2.1 (fun m1 h1 f1 => b_X10_line_53 ?_))
      exact d_linkLine (by omega) hb hn h1 hW1 (fun m' hr => b_X10_line_57 (K m' (dL_f f1 (dL_R hr))))
    · rw [if_neg z2] at K
      refine ite_n (fun q => z2 ((d_w_link h hW).mp q)) ?_
      by_cases z3 : isWd b σ w_path
      · rw [if_pos z3] at K
        refine ite_y ((d_w_path h hW).mpr z3) (d_tokenP (by omega) hb hn h hW.1.2.1 (fun m1 h1 f1 => b_X10_line_82 ?_))
        exact d_pathLine (ring := false) (by omega) hb hn h1 hW1 (fun m' hr => b_X10_line_87 (K m' (dL_f f1 hr)))
      · rw [if_neg z3] at K
        refine ite_n (fun q => z3 ((d_w_path h hW).mp q)) ?_
        by_cases z4 : isWd b σ w_ring
        · rw [if_pos z4] at K
          refine ite_y ((d_w_ring h hW).mpr z4) (d_tokenP (by omega) hb hn h hW.1.2.1 (fun m1 h1 f1 => b_X10_line_113 ?_))
          exact d_pathLine (ring := true) (by omega) hb hn h1 hW1 (fun m' hr => b_X10_line_118 (K m' (dL_f f1 hr)))
        · rw [if_neg z4] at K
          refine ite_n (fun q => z4 ((d_w_ring h hW).mp q)) (ite_v h.2.2.2.1 (wF_al2 (P := fun m' => Q none (mk m')) ?_))
          exact K _ (dL_R (dR_l (wF_E h (f := 1) (c := 1) rfl (by decide))))
end ZTm
