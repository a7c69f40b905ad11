/-! text: the model's tokens -/
def mkd (t : Nat × Nat × Nat) : Nat := if t.1 = 0 then 0 else if t.1 = 1 then 2 else if t.1 = 2 then (if t.2.2 - t.2.1 ≤ 5 then 1 else 4) else if t.1 = 3 then 3 else 4
def wvl (b : Nat → Nat) (a : Nat) : Nat → Nat
  | 0 => 0
  | l + 1 => 32 * wvl b a l + (b (a + l) - 96)
section ZTk
variable {g : zG} {gr : Bool} {e : Nat} {Q : Option Value → zH → Prop} {m : zm} {b : Nat → Nat} {n : Nat}
def XT (g : zG) (gr : Bool) (d : Nat) (Q : Option Value → zH → Prop) (m : zm) : Prop := (∀ m721 : zm, m721 = wI m 810 13 (m.1 810 12) → ((((m721.1 810 11) ≤ (m721.1 810 12) → (Q none (mk (wI m721 810 14 (0 : Int32))))) ∧ (¬ (m721.1 810 11) ≤ (m721.1 810 12) → (vp_in (m721.1 810 12) 400 ∧ (((¬ (m721.1 815 (m721.1 810 12).toNatClampNeg) = (-1 : Int32) → ((tX10_isLetter (m721.1 815 (m721.1 810 12).toNatClampNeg) → (WP g gr (d + 1) mX10_token 0 0 70 [.ref 810, .retAddr 0, .int (0 : Int32)] [] (mk (wI m721 810 15 (0 : Int32))) Q)) ∧ (¬ tX10_isLetter (m721.1 815 (m721.1 810 12).toNatClampNeg) → (((m721.1 815 (m721.1 810 12).toNatClampNeg) < (48 : Int32) → ((¬ (m721.1 815 (m721.1 810 12).toNatClampNeg) = (59 : Int32) → (∀ m733 : zm, m733 = wI m721 810 14 (4 : Int32) → (Q none (mk (wI m733 810 12 ((m733.1 810 12) + (1 : Int32))))))) ∧ ((m721.1 815 (m721.1 810 12).toNatClampNeg) = (59 : Int32) → (∀ m734 : zm, m734 = wI m721 810 14 (3 : Int32) → (Q none (mk (wI m734 810 12 ((m734.1 810 12) + (1 : Int32))))))))) ∧ (¬ (m721.1 815 (m721.1 810 12).toNatClampNeg) < (48 : Int32) → (((57 : Int32) < (m721.1 815 (m721.1 810 12).toNatClampNeg) → ((¬ (m721.1 815 (m721.1 810 12).toNatClampNeg) = (59 : Int32) → (∀ m739 : zm, m739 = wI m721 810 14 (4 : Int32) → (Q none (mk (wI m739 810 12 ((m739.1 810 12) + (1 : Int32))))))) ∧ ((m721.1 815 (m721.1 810 12).toNatClampNeg) = (59 : Int32) → (∀ m740 : zm, m740 = wI m721 810 14 (3 : Int32) → (Q none (mk (wI m740 810 12 ((m740.1 810 12) + (1 : Int32))))))))) ∧ (¬ (57 : Int32) < (m721.1 815 (m721.1 810 12).toNatClampNeg) → (∀ m741 : zm, m741 = wI m721 810 16 ((m721.1 815 (m721.1 810 12).toNatClampNeg) - (48 : Int32)) → (∀ m742 : zm, m742 = wI m741 810 14 (2 : Int32) → (Q none (mk (wI m742 810 12 ((m742.1 810 12) + (1 : Int32)))))))))))))) ∧ ((m721.1 815 (m721.1 810 12).toNatClampNeg) = (-1 : Int32) → (Q none (mk (wI m721 810 14 (0 : Int32))))))))))))
abbrev fTk (m m' : zm) : Prop := fM [12, 13, 14, 15, 16] [] m m'
theorem lt_m {x : Nat} (h : x < 256) : tX10_isLetter (nI x) ↔ isLt x = true := lt_c h
theorem lt_m1 : ¬ tX10_isLetter (-1) := fun z => z.1 (by decide)
theorem d_wnd {m0 : zm} (hb : ∀ i, b i < 256) (hn : n ≤ 400) (h11 : m0.1 810 11 = nI n) (hr : ∀ i, i < n → m0.1 815 i = nI (b i)) {d a : Nat} : ∀ (f p : Nat) (m : zm), f = n - p → a ≤ p → p ≤ n → m.1 810 12 = nI p → (p - a ≤ 5 → m.1 810 15 = nI (wvl b a (p - a))) → fTk m0 m → (∀ m', m'.1 810 12 = nI (wnd b n f p) → m'.1 810 13 = m.1 810 13 → m'.1 810 14 = nI (if wnd b n f p - a ≤ 5 then 1 else 4) → (wnd b n f p - a ≤ 5 → m'.1 810 15 = nI (wvl b a (wnd b n f p - a))) → fTk m0 m' → Q none (mk m')) → WP g gr (d + 1) mX10_token 0 0 70 [.ref 810, .retAddr 0, .int (nI (p - a))] [] (mk m) Q := by
  intro f
  have fin : ∀ (p : Nat) (m : zm), p ≤ 400 → m.1 810 12 = nI p → (p - a ≤ 5 → m.1 810 15 = nI (wvl b a (p - a))) → fTk m0 m → (∀ m', m'.1 810 12 = nI p → m'.1 810 13 = m.1 810 13 → m'.1 810 14 = nI (if p - a ≤ 5 then 1 else 4) → (p - a ≤ 5 → m'.1 810 15 = nI (wvl b a (p - a))) → fTk m0 m' → Q none (mk m')) → ((nI (p - a) ≤ (5 : Int32) → Q none (mk (wI m 810 14 (1 : Int32)))) ∧ (¬ nI (p - a) ≤ (5 : Int32) → Q none (mk (wI m 810 14 (4 : Int32))))) := fun p m hp h12 h15 f0 K =>
    pk_le (p - a) 5 (fun z => K _ ((rI_n (by decide)).trans h12) (rI_n (by decide)) (by rw [rI_s, if_pos z]; rfl) (fun _ => (rI_n (by decide)).trans (h15 z)) (fM_trans f0 fM_f)) (fun z => K _ ((rI_n (by decide)).trans h12) (rI_n (by decide)) (by rw [rI_s, if_neg (by omega)]; rfl) (fun y => absurd y (by omega)) (fM_trans f0 fM_f))
  induction f with
  | zero =>
    intro p m hf ha hp h12 h15 f0 K
    have e11 : m.1 810 11 = nI n := by rw [fM_2 f0]; exact h11
    refine b_X10_token_70 (pk_le n p (fun _ => ⟨fun z => absurd z lt_m1, fun _ => ?_⟩) (fun z => by omega) e11 h12)
    exact fin p m (by omega) h12 h15 f0 K
  | succ f ih =>
    intro p m hf ha hp h12 h15 f0 K
    have e11 : m.1 810 11 = nI n := by rw [fM_2 f0]; exact h11
    have hpn : p < n := by omega
    have eb : m.1 815 p = nI (b p) := by rw [fM_1 f0 (a := 815) p]; exact hr p hpn
    have ew : wnd b n (f + 1) p = if p < n ∧ isLt (b p) = true then wnd b n f (p + 1) else p := rfl
    refine b_X10_token_70 (pk_le n p (fun z => by omega) (fun _ => ⟨by rw [h12]; exact pk_in p 400 (by omega), ?_⟩) e11 h12)
    rw [h12, cw (show p < 2 ^ 31 by omega), eb]
    by_cases hl : isLt (b p) = true
    · refine ⟨fun _ => ?_, fun z => absurd ((lt_m (hb p)).mpr hl) z⟩
      rw [ew, if_pos ⟨hpn, hl⟩] at K
      have hl2 := isLt_e hl
      refine pk_le 5 (p - a) (fun z => ?_) (fun z => ?_)
      · rintro m1 rfl
        rw [rI_n (by decide), h12, nI_1, nI_1, show p - a + 1 = p + 1 - a by omega]
        exact ih (p + 1) _ (by omega) (by omega) (by omega) rI_s (fun y => absurd y (by omega)) (fM_trans f0 (fM_trans fM_f fM_f)) (fun m' a1 a2 a3 a4 a5 => K m' a1 (a2.trans ((rI_n (by decide)).trans (rI_n (by decide)))) a3 a4 a5)
      · rw [h15 (by omega), show (32 : Int32) = nI 32 from rfl, pk_mul, nI_add, show (96 : Int32) = nI 96 from rfl, pk_sub (by omega)]
        rintro m1 rfl
        rw [rI_n (show ¬ (810 = 810 ∧ 12 = 15) by decide), h12, nI_1, nI_1, show p - a + 1 = p + 1 - a by omega]
        refine ih (p + 1) _ (by omega) (by omega) (by omega) rI_s (fun y => ?_) (fM_trans f0 (fM_trans fM_f fM_f)) (fun m' a1 a2 a3 a4 a5 => K m' a1 (a2.trans ((rI_n (by decide)).trans (rI_n (by decide)))) a3 a4 a5)
        rw [rI_n (by decide), rI_s, show p + 1 - a = (p - a) + 1 by omega]
        show _ = nI (32 * wvl b a (p - a) + (b (a + (p - a)) - 96))
        rw [show a + (p - a) = p by omega]
        congr 1
        omega
    · refine ⟨fun z => absurd ((lt_m (hb p)).mp z) hl, fun _ => ?_⟩
      rw [ew, if_neg (fun z => hl z.2)] at K
      exact fin p m (by omega) h12 h15 f0 K
/-- what is so behind a token of the model -/
def pTk (m : zm) (b : Nat → Nat) (t : Nat × Nat × Nat) : Prop := m.1 810 12 = nI t.2.2 ∧ m.1 810 13 = nI t.2.1 ∧ m.1 810 14 = nI (mkd t) ∧ (mkd t = 1 → m.1 810 15 = nI (wvl b t.2.1 (t.2.2 - t.2.1))) ∧ (t.1 = 1 → m.1 810 16 = nI (b t.2.1 - 48))
theorem d_tka {m0 : zm} (hb : ∀ i, b i < 256) (hn : n ≤ 400) (h11 : m0.1 810 11 = nI n) (hr : ∀ i, i < n → m0.1 815 i = nI (b i)) {d a : Nat} (ha : a ≤ n) (h12 : m.1 810 12 = nI a) (f0 : fTk m0 m) (K : ∀ m', pTk m' b (tka b n a) → fTk m0 m' → Q none (mk m')) : XT g gr d Q m := by
  rintro m1 rfl
  have e11 : (wI m 810 13 (m.1 810 12)).1 810 11 = nI n := (rI_n (by decide)).trans (by rw [fM_2 f0]; exact h11)
  have e12 : (wI m 810 13 (m.1 810 12)).1 810 12 = nI a := (rI_n (by decide)).trans h12
  have e13 : (wI m 810 13 (m.1 810 12)).1 810 13 = nI a := rI_s.trans h12
  have f1 : fTk m0 (wI m 810 13 (m.1 810 12)) := fM_trans f0 fM_f
  revert e11 e12 e13 f1
  generalize wI m 810 13 (m.1 810 12) = m1
  intro e11 e12 e13 f1
  refine pk_le n a (fun han => ?_) (fun han => ⟨by rw [e12]; exact pk_in a 400 (by omega), ?_⟩) e11 e12
  · have et : tka b n a = (0, a, a) := by unfold tka; rw [if_pos han]
    rw [et] at K
    exact K _ ⟨(rI_n (by decide)).trans e12, (rI_n (by decide)).trans e13, rI_s, fun z => absurd z (by show ¬ (0 : Nat) = 1; decide), fun z => absurd z (by show ¬ (0 : Nat) = 1; decide)⟩ (fM_trans f1 fM_f)
  · have eb : m1.1 815 a = nI (b a) := by rw [fM_1 f1 (a := 815) a]; exact hr a han
    have hba := hb a
    rw [e12, cw (show a < 2 ^ 31 by omega), eb]
    refine ⟨fun _ => ?_, fun z => ?_⟩
    · by_cases hl : isLt (b a) = true
      · refine ⟨fun _ => ?_, fun z => absurd ((lt_m hba).mpr hl) z⟩
        have et : tka b n a = (2, a, wnd b n (n - (a + 1)) (a + 1)) := by unfold tka; rw [if_neg (by omega), if_pos hl]
        rw [et] at K
        have ew : wnd b n (n - a) a = wnd b n (n - (a + 1)) (a + 1) := by
          rw [show n - a = (n - (a + 1)) + 1 by omega]
          show (if a < n ∧ isLt (b a) = true then _ else _) = _
          rw [if_pos ⟨han, hl⟩]
        have key := d_wnd (g := g) (gr := gr) (Q := Q) hb hn h11 hr (d := d) (a := a) (n - a) a (wI m1 810 15 0) rfl (Nat.le_refl _) ha ((rI_n (by decide)).trans e12) (fun _ => by rw [rI_s, Nat.sub_self]; rfl) (fM_trans f1 fM_f) (fun m' a1 a2 a3 a4 a5 => ?_)
        · rw [Nat.sub_self] at key; exact key
        · rw [ew] at a1 a3 a4
          refine K m' ⟨a1, a2.trans ((rI_n (by decide)).trans e13), a3, fun z => a4 ?_, fun z => absurd z (by show ¬ (2 : Nat) = 1; decide)⟩ a5
          by_cases y : wnd b n (n - (a + 1)) (a + 1) - a ≤ 5
          · exact y
          · have : mkd (2, a, wnd b n (n - (a + 1)) (a + 1)) = 4 := by
              show (if wnd b n (n - (a + 1)) (a + 1) - a ≤ 5 then 1 else 4) = 4
              rw [if_neg y]
            rw [this] at z; cases z
      · refine ⟨fun z => absurd ((lt_m hba).mp z) hl, fun _ => ?_⟩
        have fin : ∀ t : Nat, (t = 3 ∨ t = 4) → tka b n a = (t, a, a + 1) → ∀ x, x = nI t → ∀ m2, m2 = wI m1 810 14 x → Q none (mk (wI m2 810 12 ((m2.1 810 12) + 1))) := fun t ht et x hx m2 e2 => by
          subst hx; subst e2
          rw [et] at K
          have em : mkd (t, a, a + 1) = t := by rcases ht with rfl | rfl <;> rfl
          refine K _ ⟨?_, (rI_n (by decide)).trans ((rI_n (by decide)).trans e13), ?_, fun z => ?_, fun z => ?_⟩ (fM_trans f1 (fM_trans fM_f fM_f))
          · rw [rI_s, rI_n (by decide), e12, nI_1]
          · rw [em]; exact (rI_n (by decide)).trans rI_s
          · rw [em] at z; omega
          · have : t = 1 := z; omega
        have et0 : tka b n a = if 48 ≤ b a ∧ b a ≤ 57 then (1, a, a + 1) else if b a = 59 then (3, a, a + 1) else (4, a, a + 1) := by unfold tka; rw [if_neg (by omega), if_neg hl]
        refine pk_lt (b a) 48 (fun z1 => ?_) (fun z1 => pk_lt 57 (b a) (fun z2 => ?_) (fun z2 => ?_))
        · refine pk_eq (b a) 59 (fun z3 => fin 3 (Or.inl rfl) (by rw [et0, if_neg (by omega), if_pos z3]) _ rfl) (fun z3 => fin 4 (Or.inr rfl) (by rw [et0, if_neg (by omega), if_neg z3]) _ rfl) |> fun h => ⟨h.2, h.1⟩
        · refine pk_eq (b a) 59 (fun z3 => fin 3 (Or.inl rfl) (by rw [et0, if_neg (by omega), if_pos z3]) _ rfl) (fun z3 => fin 4 (Or.inr rfl) (by rw [et0, if_neg (by omega), if_neg z3]) _ rfl) |> fun h => ⟨h.2, h.1⟩
        · rw [show (48 : Int32) = nI 48 from rfl, pk_sub z1]
          rintro m2 rfl m3 rfl
          rw [et0, if_pos ⟨z1, z2⟩] at K
          refine K _ ⟨?_, (rI_n (by decide)).trans ((rI_n (by decide)).trans ((rI_n (by decide)).trans e13)), (rI_n (by decide)).trans rI_s, fun z => absurd z (by show ¬ (2 : Nat) = 1; decide), fun _ => (rI_n (by decide)).trans ((rI_n (by decide)).trans rI_s)⟩ (fM_trans f1 (fM_trans fM_f (fM_trans fM_f fM_f)))
          rw [rI_s, rI_n (by decide), rI_n (by decide), e12, nI_1]
    · have h1 := nI_toInt (n := b a) (by omega)
      rw [z] at h1
      have : (-1 : Int32).toInt = -1 := by decide
      omega
theorem d_token (he : 1 ≤ e) (hb : ∀ i, b i < 256) (hn : n ≤ 400) {p : Nat} (h11 : m.1 810 11 = nI n) (hr : ∀ i, i < n → m.1 815 i = nI (b i)) (h12 : m.1 810 12 = nI p) (hp : p ≤ n) (K : ∀ m', pTk m' b (tk b n p) → fTk m m' → Q none (mk m')) : Ok g gr e mX10_token 0 0 [.ref 810] (mk m) Q := by
  obtain ⟨d, rfl⟩ := dn he
  refine b_X10_token_0 ?_
  have key : ∀ (f p : Nat) (m' : zm), f = n - p → p ≤ n → m'.1 810 12 = nI p → fTk m m' → (∀ m'', pTk m'' b (tka b n (skb b n f p)) → fTk m m'' → Q none (mk m'')) → WP g gr (d + 1) mX10_token 0 0 0 [.ref 810, .retAddr 0, .retAddr 0] [] (mk m') Q := by
    intro f
    induction f with
    | zero =>
      intro p m' hf hp h12 f0 K
      have e11 : m'.1 810 11 = nI n := by rw [fM_2 f0]; exact h11
      refine b_X10_token_0l (pk_le n p (fun _ => ?_) (fun z => by omega) e11 h12)
      exact d_tka hb hn h11 hr hp h12 f0 K
    | succ f ih =>
      intro p m' hf hp h12 f0 K
      have e11 : m'.1 810 11 = nI n := by rw [fM_2 f0]; exact h11
      have hpn : p < n := by omega
      have eb : m'.1 815 p = nI (b p) := by rw [fM_1 f0 (a := 815) p]; exact hr p hpn
      have es : skb b n (f + 1) p = if p < n ∧ b p = 32 then skb b n f (p + 1) else p := rfl
      refine b_X10_token_0l (pk_le n p (fun z => by omega) (fun _ => ⟨by rw [h12]; exact pk_in p 400 (by omega), ?_⟩) e11 h12)
      have e21 : m'.1 815 ((m'.1 810 12).toNatClampNeg) = nI (b p) := by rw [h12, cw (show p < 2 ^ 31 by omega)]; exact eb
      have hbp := hb p
      by_cases z : b p = 32
      · refine ⟨fun y => absurd (by rw [e21, z]; rfl) y, fun _ => ?_⟩
        rw [es, if_pos ⟨hpn, z⟩] at K
        exact ih (p + 1) _ (by omega) (by omega) (by rw [rI_s, h12, nI_1]) (fM_trans f0 fM_f) K
      · refine ⟨fun _ => ?_, fun y => absurd ((nI_eq (by omega) (by decide)).mp (e21.symm.trans y)) z⟩
        rw [es, if_neg (fun y => z y.2)] at K
        exact d_tka hb hn h11 hr hp h12 f0 K
  exact key (n - p) p m rfl hp h12 (fM_refl _ _ _) K
end ZTk
