/-! the class Pairing -/
def pPR (m : zm) (n : Nat) (L : List (Nat → Nat)) : Prop := m.1 157 0 = nI L.length ∧ (∀ v, v < n → m.1 159 v = nI (rch L v)) ∧ ∀ p, L.head? = some p → ∀ v, v < n → m.1 158 v = nI (p v)
def fP (v : Nat) (m m' : zm) : Prop := (∀ a, a ≠ 157 → a ≠ 158 → a ≠ 159 → a ≠ 190 → m'.1 a = m.1 a ∧ m'.2 a = m.2 a) ∧ (∀ u, u < v → m'.1 190 u = m.1 190 u) ∧ m'.1 157 6 = m.1 157 6
theorem fP_refl (v : Nat) (m : zm) : fP v m m := ⟨fun _ _ _ _ _ => ⟨rfl, rfl⟩, fun _ _ => rfl, rfl⟩
theorem fP_trans {v : Nat} {m m' m'' : zm} (h1 : fP v m m') (h2 : fP v m' m'') : fP v m m'' := ⟨fun a a1 a2 a3 a4 => ⟨(h2.1 a a1 a2 a3 a4).1.trans (h1.1 a a1 a2 a3 a4).1, (h2.1 a a1 a2 a3 a4).2.trans (h1.1 a a1 a2 a3 a4).2⟩, fun u hu => (h2.2.1 u hu).trans (h1.2.1 u hu), h2.2.2.trans h1.2.2⟩
theorem fP_mono {v v' : Nat} {m m' : zm} (h : fP v' m m') (hv : v ≤ v') : fP v m m' := ⟨h.1, fun u hu => h.2.1 u (by omega), h.2.2⟩
theorem pG_fP {v o : Nat} {m m' : zm} {G : Gr} (h : pG m o G) (f : fP v m m') (d : 160 ≤ o ∧ o + 15 ≤ 190) : pG m' o G := by
  have q : ∀ a, 160 ≤ a → a < 190 → m'.1 a = m.1 a := fun a h1 h2 => (f.1 a (by omega) (by omega) (by omega) (by omega)).1
  exact ⟨by rw [q _ (by omega) (by omega)]; exact h.1, fun v hv => by rw [q _ (by omega) (by omega)]; exact h.2.1 v hv, fun a b ha hb => by rw [q _ (by omega) (by omega)]; exact h.2.2.1 a b ha hb, fun k x hk hx => by rw [q _ (by omega) (by omega)]; exact h.2.2.2 k x hk hx⟩
section ZPa
variable {g : zG} {gr : Bool}
theorem k_unlike {e : Nat} {m : zm} {Q : Option Value → zH → Prop} {v w : Nat} {G H : Gr} {s : Nat → Nat} (hG : gOK G) (hH : gOK H) (hg : pG m 160 G) (hh : pG m 175 H) (hv : v < 7) (hw : w < 7) (hs : ∀ u, u < v → m.1 190 u = nI (s u) ∧ s u < 7) (K : Q (some (.int (nI (cst G H s v w)))) (mk m)) : Ok g gr e mX3_unlike 0 0 [.ref 157, .int (nI v), .int (nI w)] (mk m) Q := by
  have lp : ∀ b, b = (if gc G v = gc H w then 0 else 1) → WP g gr e mX3_unlike 0 0 30 [.ref 157, .int (nI v), .int (nI w), .int (nI b), .int (nI 0)] [] (mk m) Q := by
    intro b hb
    refine up_to (n := v) (P := fun u => WP g gr e mX3_unlike 0 0 30 [.ref 157, .int (nI v), .int (nI w), .int (nI (b + fb_ct (fun u => !(gk G u v == gk H (s u) w)) u)), .int (nI u)] [] (mk m) Q) ?_ (fun u hu ih => ?_) 0 (Nat.zero_le _)
    · refine b_X3_unlike_30 (d := e) (pk_le v v (fun _ => ?_) (fun z => absurd z (Nat.lt_irrefl _)))
      rw [hb]; exact K
    · obtain ⟨h1, h2⟩ := hs u hu
      refine b_X3_unlike_30 (d := e) (pk_le v u (fun z => by omega) (fun _ => ⟨pk_in u 7 (by omega), pk_in v 7 hv, ?_⟩))
      rw [nI_clamp (show u < 2 ^ 31 by omega), nI_clamp (show v < 2 ^ 31 by omega), nI_clamp (show w < 2 ^ 31 by omega), h1, nI_clamp (show s u < 2 ^ 31 by omega)]
      refine ⟨pk_in (s u) 7 h2, pk_in w 7 hw, ?_⟩
      rw [show 163 + u = 160 + 3 + u from rfl, show 178 + s u = 175 + 3 + s u from rfl, hg.2.2.1 u v (by omega) hv, hh.2.2.1 (s u) w h2 hw, nI_1]
      have b1 := hG.2.1 u v
      have b2 := hH.2.1 (s u) w
      have es : fb_ct (fun u => !(gk G u v == gk H (s u) w)) (u + 1) = fb_ct (fun u => !(gk G u v == gk H (s u) w)) u + (if (!(gk G u v == gk H (s u) w)) = true then 1 else 0) := fb_ct_succ _ _
      refine pk_eq (gk G u v) (gk H (s u) w) (fun z => ?_) (fun z => ?_)
      · rw [es, bq_t z] at ih
        exact ih
      · rw [es, bq_f z] at ih
        rw [nI_1]
        exact ih
  refine b_X3_unlike_0 (d := e) ⟨pk_in v 7 hv, pk_in w 7 hw, ?_⟩
  rw [nI_clamp (show v < 2 ^ 31 by omega), nI_clamp (show w < 2 ^ 31 by omega), show (161 : Nat) = 160 + 1 from rfl, show (176 : Nat) = 175 + 1 from rfl, hg.2.1 v hv, hh.2.1 w hw]
  have c1 := hG.1 v
  have c2 := hH.1 w
  refine ⟨fun z => lp 1 ?_, fun z => lp 0 ?_⟩
  · rw [nI_eq (by omega) (by omega)] at z; rw [if_neg z]
  · rw [nI_eq (by omega) (by omega)] at z; rw [if_pos z]
theorem cst_lt {G H : Gr} {s : Nat → Nat} {v w : Nat} (hv : v < 7) : cst G H s v w ≤ 7 := by
  unfold cst dff
  have := fb_ct_le (fun u => !(gk G u v == gk H (s u) w)) v
  split <;> omega
theorem k_fits {e : Nat} {m : zm} {Q : Option Value → zH → Prop} {v w stay : Nat} {G H : Gr} {s : Nat → Nat} (he : 1 ≤ e) (hG : gOK G) (hH : gOK H) (hg : pG m 160 G) (hh : pG m 175 H) (hv : v < 7) (hw : w < 7) (hs : ∀ u, u < v → m.1 190 u = nI (s u) ∧ s u < 7) (hst : m.1 157 6 = nI stay) (hst2 : stay < 2 ^ 31)
    (K1 : ((v == w || !(stay.testBit v)) && cst G H s v w == 0) = true → Q (some (.int 1)) (mk m)) (K0 : ((v == w || !(stay.testBit v)) && cst G H s v w == 0) = false → Q (some (.int 0)) (mk m)) : Ok g gr e mX3_fits 0 0 [.ref 157, .int (nI v), .int (nI w)] (mk m) Q := by
  obtain ⟨d, rfl⟩ := dn he
  have hc := cst_lt (G := G) (H := H) (s := s) (w := w) hv
  have fin : (v == w || !(stay.testBit v)) = true → Ok g gr d mX3_unlike 0 0 [.ref 157, .int (nI v), .int (nI w)] (mk m) (fun r h2 => WP g gr (d + 1) mX3_fits 0 0 22 [.retAddr 0, .retAddr 0, .retAddr 0] (r.toList ++ []) h2 Q) := fun hb => by
    refine k_unlike hG hH hg hh hv hw hs (b_X3_fits_22 ⟨fun z => K0 ?_, fun z => K1 ?_⟩)
    · rw [hb, bq_f (fun w => z (by rw [w]; rfl))]; rfl
    · rw [show (0 : Int32) = nI 0 from rfl, nI_eq (by omega) (by decide)] at z
      rw [hb, bq_t z]; rfl
  refine b_X3_fits_0 (pk_eq v w (fun z => fin (by rw [bq_t z]; rfl)) (fun z => ?_))
  rw [hst, i_in hst2 (by omega)]
  refine ⟨fun z2 => K0 ?_, fun z2 => fin ?_⟩
  · rw [bq_f z, z2]; rfl
  · have : stay.testBit v = false := by
      cases h : stay.testBit v with
      | false => rfl
      | true => exact absurd h z2
    rw [this]; simp
theorem k_note3 {e : Nat} {m : zm} {Q : Option Value → zH → Prop} {n : Nat} {s : Nat → Nat} {L : List (Nat → Nat)} (he : 2 ≤ e) (hn : n ≤ 7) (h0 : m.1 160 0 = nI n) (hs : ∀ u, u < n → m.1 190 u = nI (s u) ∧ s u < 7) (hL : L.length + 1 < 2 ^ 31) (hp : pPR m n L) (hb : ∀ p ∈ L, ∀ v, v < n → p v < 7) (K : ∀ m', pPR m' n (L ++ [s]) → fP n m m' → Q none (mk m')) : Ok g gr e mX3_note 0 0 [.ref 157] (mk m) Q := by
  obtain ⟨d, rfl⟩ := dn he
  have lp : ∀ m1, (∀ p, (L ++ [s]).head? = some p → ∀ v, v < n → m1.1 158 v = nI (p v)) → m1.1 157 0 = nI (L.length + 1) → (∀ v, v < n → m1.1 159 v = nI (rch L v)) → fP n m m1 → WP g gr (d + 2) mX3_note 0 0 34 [.ref 157, .int (nI 0)] [] (mk m1) Q := by
    intro m1 a1 a2 a3 a4
    refine up_to (n := n) (P := fun i => ∀ m', (∀ p, (L ++ [s]).head? = some p → ∀ v, v < n → m'.1 158 v = nI (p v)) → m'.1 157 0 = nI (L.length + 1) → (∀ v, v < i → m'.1 159 v = nI (rch (L ++ [s]) v)) → (∀ v, i ≤ v → v < n → m'.1 159 v = nI (rch L v)) → fP n m m' → WP g gr (d + 2) mX3_note 0 0 34 [.ref 157, .int (nI i)] [] (mk m') Q) ?_ ?_ 0 (Nat.zero_le _) m1 a1 a2 (fun v hv => absurd hv (Nat.not_lt_zero _)) (fun v _ hv => a3 v hv) a4
    · intro m' b1 b2 b3 b4 b5
      refine b_X3_note_34 (pk_le n n (fun _ => K m' ⟨by rw [b2, List.length_append]; rfl, b3, b1⟩ b5) (fun z => absurd z (Nat.lt_irrefl _)) (by rw [(b5.1 160 (by decide) (by decide) (by decide) (by decide)).1]; exact h0))
    · intro i hi ih m' b1 b2 b3 b4 b5
      obtain ⟨s1, s2⟩ := hs i hi
      refine b_X3_note_34 (pk_le n i (fun z => by omega) (fun _ => ⟨pk_in i 7 (by omega), ?_⟩) (by rw [(b5.1 160 (by decide) (by decide) (by decide) (by decide)).1]; exact h0))
      rw [nI_clamp (show i < 2 ^ 31 by omega), b4 i (Nat.le_refl _) hi, b5.2.1 i hi, s1, i_sh1 (by omega), fa_or, ← rch_app, nI_1]
      refine ih _ (fun p hp v hv => by rw [rI_n (by omega)]; exact b1 p hp v hv) (by rw [rI_n (by omega)]; exact b2) (fun v hv => ?_) (fun v h1 h2 => by rw [rI_n (by omega)]; exact b4 v (by omega) h2) (fP_trans b5 ⟨fun a x1 x2 x3 x4 => ⟨funext fun j => rI_n (fun q => x3 q.1), rfl⟩, fun u _ => rI_n (by omega), rI_n (by omega)⟩)
      by_cases z : v = i
      · subst z; rw [rI_s]
      · rw [rI_n (fun q => z q.2)]; exact b3 v (by omega)
  refine b_X3_note_0 ⟨fun z => ?_, fun z => ?_⟩
  · rw [hp.1, nI_1]
    have hne : L ≠ [] := fun w => z (by rw [hp.1, w]; rfl)
    obtain ⟨p0, L', rfl⟩ : ∃ p0 L', L = p0 :: L' := by
      cases L with
      | nil => exact absurd rfl hne
      | cons a b => exact ⟨a, b, rfl⟩
    exact lp _ (fun p hh v hv => by rw [rI_n (by omega)]; exact hp.2.2 p hh v hv) rI_s (fun v hv => by rw [rI_n (by omega)]; exact hp.2.1 v hv) ⟨fun a x1 x2 x3 x4 => ⟨funext fun j => rI_n (fun q => x1 q.1), rfl⟩, fun u _ => rI_n (by omega), rI_n (by omega)⟩
  · intro m1 e1
    have hl0 : L = [] := by
      rw [hp.1, show (0 : Int32) = nI 0 from rfl, nI_eq (by omega) (by decide)] at z
      exact List.eq_nil_of_length_eq_zero z
    subst hl0
    have r0 : m1.1 157 0 = nI 0 := by rw [e1, wC_1, if_neg (by omega)]; exact hp.1
    rw [r0, nI_1]
    refine lp _ (fun p hh v hv => ?_) rI_s (fun v hv => by rw [rI_n (by omega), e1, wC_1, if_neg (by omega)]; exact hp.2.1 v hv) ⟨fun a x1 x2 x3 x4 => ⟨funext fun j => by rw [rI_n (fun q => x1 q.1), e1, wC_1, if_neg (fun q => x2 q.1)], by rw [wI_2, e1, wC_2]⟩, fun u _ => by rw [rI_n (by omega), e1, wC_1, if_neg (by omega)], by rw [rI_n (by omega), e1, wC_1, if_neg (by omega)]⟩
    rw [rI_n (by omega), e1, wC_1, if_pos ⟨rfl, by omega⟩]
    have : p = s := (Option.some.inj hh).symm
    rw [this]; exact (hs v hv).1
theorem k_send {G H : Gr} {stay : Nat} (hG : gWF G) (hH : gWF H) (hGH : gn G = gn H) (hst2 : stay < 2 ^ 31) : ∀ (k e v ub : Nat) (s : Nat → Nat) (L : List (Nat → Nat)) (m : zm) (Q : Option Value → zH → Prop), v + k = gn G → k + 4 ≤ e → pG m 160 G → pG m 175 H → (∀ u, u < v → m.1 190 u = nI (s u) ∧ s u < 7) → ub < 128 → (∀ w, w < 7 → ub.testBit w = usd s v w) → m.1 157 6 = nI stay → pPR m (gn G) L → (∀ p ∈ L, ∀ v, v < gn G → p v < 7) → L.length + 7 ^ k < 2 ^ 31 →
    (∀ m', pPR m' (gn G) (L ++ mp G H stay k v s) → fP v m m' → Q none (mk m')) → Ok g gr e mX3_send 0 0 [.ref 157, .int (nI v), .int (nI ub)] (mk m) Q := by
  have h7 := hG.2.1.2
  intro k
  induction k with
  | zero =>
    intro e v ub s L m Q hv he hg hh hs hub hub2 hst hp hb hL K
    obtain ⟨d, rfl⟩ : ∃ d, e = d + 3 := ⟨e - 3, by omega⟩
    have hv : v = gn G := hv
    subst hv
    refine b_X3_send_0 (pk_lt (gn G) (gn G) (fun z => absurd z (Nat.lt_irrefl _)) (fun _ => ?_) rfl hg.1)
    refine k_note3 (by omega) h7 hg.1 hs (by have : (7 : Nat) ^ 0 = 1 := rfl; omega) hp hb (fun m' a1 a2 => b_X3_send_15 (K m' a1 a2))
  | succ k ih =>
    intro e v ub s L m Q hv he hg hh hs hub hub2 hst hp hb hL K
    obtain ⟨d, rfl⟩ : ∃ d, e = d + 3 := ⟨e - 3, by omega⟩
    refine b_X3_send_0 (pk_lt v (gn G) (fun _ => ?_) (fun z => by omega) rfl hg.1)
    let B := fun w (L : List (Nat → Nat)) => if fitb G H stay s v w = true then L ++ mp G H stay k (v + 1) (ups s v w) else L
    have hlen : ∀ w, (it B w []).length ≤ w * 7 ^ k := by
      intro w
      induction w with
      | zero => exact Nat.zero_le _
      | succ w ih2 =>
        rw [it_succ, Nat.succ_mul]
        show (if _ then _ else _ : List (Nat → Nat)).length ≤ _
        split
        · rw [List.length_append]; have := mp_len (G := G) (H := H) (stay := stay) h7 k (v + 1) (ups s v w); omega
        · exact Nat.le_trans ih2 (Nat.le_add_right _ _)
    refine up_to (n := gn G) (P := fun w => ∀ m', pPR m' (gn G) (L ++ it B w []) → (∀ p ∈ L ++ it B w [], ∀ v, v < gn G → p v < 7) → fP v m m' → WP g gr (d + 3) mX3_send 0 0 18 [.ref 157, .int (nI v), .int (nI ub), .int (nI w)] [] (mk m') Q) ?_ ?_ 0 (Nat.zero_le _) m (by show pPR m (gn G) (L ++ []); rw [List.append_nil]; exact hp) (by show ∀ p ∈ L ++ [], _; rw [List.append_nil]; exact hb) (fP_refl _ _)
    · intro m' a1 _ a2
      exact b_X3_send_18 (pk_le (gn G) (gn G) (fun _ => K m' a1 a2) (fun z => absurd z (Nat.lt_irrefl _)) (by rw [hGH]; exact (pG_fP hh a2 (by omega)).1))
    · intro w hw ihw m' a1 a3 a2
      have hg' := pG_fP hg a2 (by omega)
      have hh' := pG_fP hh a2 (by omega)
      have hs' : ∀ u, u < v → m'.1 190 u = nI (s u) ∧ s u < 7 := fun u hu => ⟨by rw [a2.2.1 u hu]; exact (hs u hu).1, (hs u hu).2⟩
      refine b_X3_send_18 (pk_le (gn G) w (fun z => by omega) (fun _ => ?_) (by rw [hGH]; exact hh'.1))
      rw [i_in (by omega) (by omega), hub2 w (by omega), nI_1]
      have skip : fitb G H stay s v w = false → it B (w + 1) [] = it B w [] := fun h => by
        show (if _ then _ else _) = _
        rw [if_neg (by rw [h]; decide)]
      refine ⟨fun hu => ?_, fun hu => ?_⟩
      · have := skip (by unfold fitb; rw [hu]; rfl)
        rw [this] at ihw
        exact ihw m' a1 a3 a2
      · have hu' : usd s v w = false := by
          cases h : usd s v w with
          | false => rfl
          | true => exact absurd h hu
        refine k_fits (by omega) hG.1 hH.1 hg' hh' (by omega) (by omega) hs' (by rw [a2.2.2]; exact hst) hst2 (fun hf => ?_) (fun hf => ?_)
        · have hfit : fitb G H stay s v w = true := by unfold fitb; rw [hu']; exact hf
          refine b_X3_send_43 ⟨fun z => absurd z (by decide), fun _ => ⟨pk_in v 7 (by omega), ?_⟩⟩
          rw [nI_clamp (show v < 2 ^ 31 by omega), nI_1, i_sh1 (by omega), fa_or]
          intro m2 e2
          have f2 : fP v m' m2 := by rw [e2]; exact ⟨fun a x1 x2 x3 x4 => ⟨funext fun j => rI_n (fun q => x4 q.1), rfl⟩, fun u hu => rI_n (by omega), rI_n (by omega)⟩
          have p2 : pPR m2 (gn G) (L ++ it B w []) := by
            rw [e2]
            exact ⟨by rw [rI_n (by omega)]; exact a1.1, fun v hv => by rw [rI_n (by omega)]; exact a1.2.1 v hv, fun p hh v hv => by rw [rI_n (by omega)]; exact a1.2.2 p hh v hv⟩
          have eB : it B (w + 1) [] = it B w [] ++ mp G H stay k (v + 1) (ups s v w) := by
            show (if _ then _ else _) = _
            rw [if_pos hfit]
          rw [eB] at ihw
          have hl1 := hlen w
          have hl2 : w * 7 ^ k + 7 ^ k ≤ 7 * 7 ^ k := by
            have := Nat.mul_le_mul_right (7 ^ k) (show w + 1 ≤ 7 by omega)
            rw [Nat.succ_mul] at this
            exact this
          refine ih (d + 2) (v + 1) (ub ||| 2 ^ w) (ups s v w) (L ++ it B w []) m2 _ (by omega) (by omega) (pG_fP hg' f2 (by omega)) (pG_fP hh' f2 (by omega)) (fun u hu => ?_) (or_128 hub (p2_7 (by omega))) (fun x hx => ?_) (by rw [f2.2.2, a2.2.2]; exact hst) p2 a3 (by rw [List.length_append]; rw [Nat.pow_succ] at hL; omega) (fun m3 c1 c2 => ?_)
          · unfold ups
            by_cases z : u = v
            · subst z; rw [if_pos rfl, e2, rI_s]; exact ⟨rfl, by omega⟩
            · rw [if_neg z, e2, rI_n (fun q => z q.2)]; exact hs' u (by omega)
          · rw [Nat.testBit_or, Nat.testBit_two_pow, hub2 x hx]
            have e3 : usd (ups s v w) (v + 1) x = (usd s v x || decide (w = x)) := by
              rw [Bool.eq_iff_iff, Bool.or_eq_true, usd_iff, usd_iff, decide_eq_true_iff]
              unfold ups
              constructor
              · rintro ⟨u, u1, u2⟩
                by_cases z : u = v
                · rw [if_pos z] at u2; exact Or.inr u2
                · rw [if_neg z] at u2; exact Or.inl ⟨u, by omega, u2⟩
              · rintro (⟨u, u1, u2⟩ | z)
                · exact ⟨u, by omega, by rw [if_neg (by omega)]; exact u2⟩
                · exact ⟨v, by omega, by rw [if_pos rfl]; exact z⟩
            rw [e3]
          · refine b_X3_send_65 ?_
            rw [nI_1]
            rw [List.append_assoc] at c1
            refine ihw m3 c1 (fun p hp v' hv' => ?_) (fP_trans a2 (fP_trans f2 (fP_mono c2 (by omega))))
            rw [← List.append_assoc] at hp
            rcases List.mem_append.mp hp with z | z
            · exact a3 p z v' hv'
            · refine mp_lt h7 k (v + 1) (ups s v w) (fun u hu => ?_) (by omega) p z v' hv'
              unfold ups
              by_cases q : u = v
              · rw [if_pos q]; omega
              · rw [if_neg q]; exact (hs' u (by omega)).2
        · have := skip (by unfold fitb; rw [hu']; exact hf)
          rw [this] at ihw
          refine b_X3_send_43 ⟨fun _ => ?_, fun z => absurd rfl z⟩
          rw [nI_1]
          exact ihw m' a1 a3 a2
theorem k_match {e : Nat} {m : zm} {Q : Option Value → zH → Prop} {x y stay : Nat} {G H : Gr} (hx : sX1 x) (hy : sX1 y) (he : 12 ≤ e) (hG : gWF G) (hH : gWF H) (hst : stay < 2 ^ 31) (hg : pG m x G) (hh : pG m y H) (dx : x + 15 ≤ 157 ∨ 191 ≤ x) (dy : y + 15 ≤ 157 ∨ 191 ≤ y) (K : ∀ m', pPR m' (gn G) (mps G H stay) → m'.1 160 0 = nI (gn G) → fz 157 191 m m' → Q none (mk m')) : Ok g gr e mX3_match 0 0 [.ref 157, .ref x, .ref y, .int (nI stay)] (mk m) Q := by
  obtain ⟨d, rfl⟩ := dn he
  have h7 := hG.2.1.2
  refine b_X3_match_0 hx hy (k_take a_160 hx (by omega) (by omega) hg (fun m1 a1 a2 => ?_))
  have f1 : fz 157 191 m m1 := fz_mono a2
  refine b_X3_match_8 hx hy (k_take a_175 hy (by omega) (by omega) (pG_fz hh f1 (by omega)) (fun m2 b1 b2 => ?_))
  have f2 : fz 157 191 m m2 := fz_trans f1 (fz_mono b2)
  have g2 := pG_fz a1 b2 (by omega)
  refine b_X3_match_16 hx hy ?_
  intro m3 e3
  refine up_to (n := 7) (P := fun i => ∀ m', m'.1 157 6 = nI stay → m'.1 157 0 = nI 0 → (∀ v, v < i → m'.1 159 v = nI 0) → pG m' 160 G → pG m' 175 H → fz 157 191 m m' → WP g gr (d + 12) mX3_match 0 0 29 [.ref 157, .ref x, .ref y, .retAddr 0, .int (nI i)] [] (mk m') Q) ?_ ?_ 0 (Nat.zero_le _) _ (by rw [rI_n (by omega), e3, rI_s]) rI_s (fun v hv => absurd hv (Nat.not_lt_zero _)) (pG_fz (pG_fz g2 (show fz 157 158 m2 m3 from fz_eI e3) (by omega)) (fz_wI (lo := 157) (hi := 158)) (by omega)) (pG_fz (pG_fz b1 (show fz 157 158 m2 m3 from fz_eI e3) (by omega)) (fz_wI (lo := 157) (hi := 158)) (by omega)) (fz_trans f2 (fz_trans (fz_eI e3) fz_wI))
  · intro m' c1 c2 c3 c4 c5 c6
    have hpr : pPR m' (gn G) [] := ⟨c2, fun v hv => c3 v (by omega), fun p hp => by cases hp⟩
    refine b_X3_match_29 hx hy (pk_le 7 7 (fun _ => ⟨fun z => ?_, fun z => ?_⟩) (fun z => absurd z (Nat.lt_irrefl _)))
    · rw [(pG_fz hg c6 (by omega)).1, (pG_fz hh c6 (by omega)).1, nI_eq (by omega) (by have := hH.2.1.2; omega)] at z
      refine K m' ?_ c4.1 c6
      unfold mps
      rw [if_neg z]
      exact hpr
    · rw [(pG_fz hg c6 (by omega)).1, (pG_fz hh c6 (by omega)).1, nI_eq (by omega) (by have := hH.2.1.2; omega)] at z
      have h77 : 7 ^ gn G ≤ 7 ^ 7 := Nat.pow_le_pow_right (by decide) h7
      have h78 : (7 : Nat) ^ 7 = 823543 := by decide
      refine k_send hG hH z hst (gn G) (d + 11) 0 0 (fun _ => 0) [] m' _ (Nat.zero_add _) (by omega) c4 c5 (fun u hu => absurd hu (Nat.not_lt_zero _)) (by decide) (fun w _ => by rw [Nat.zero_testBit]; rfl) c1 hpr (fun p hp => by cases hp) (by show 0 + _ < _; omega) (fun m4 d1 d2 => ?_)
      refine b_X3_match_67 (K m4 ?_ ?_ (fz_trans c6 (fun a ha => d2.1 a (by omega) (by omega) (by omega) (by omega))))
      · unfold mps
        rw [if_pos z]
        exact d1
      · rw [(d2.1 160 (by decide) (by decide) (by decide) (by decide)).1]; exact c4.1
  · intro i hi ih m' c1 c2 c3 c4 c5 c6
    refine b_X3_match_29 hx hy (pk_le 7 i (fun z => by omega) (fun _ => ⟨pk_in i 7 hi, ?_⟩))
    rw [nI_clamp (show i < 2 ^ 31 by omega), nI_1]
    refine ih _ (by rw [rI_n (by omega)]; exact c1) (by rw [rI_n (by omega)]; exact c2) (fun v hv => ?_) (pG_fz c4 (fz_wI (lo := 159) (hi := 160)) (by omega)) (pG_fz c5 (fz_wI (lo := 159) (hi := 160)) (by omega)) (fz_trans c6 fz_wI)
    by_cases z : v = i
    · subst z; exact rI_s
    · rw [rI_n (fun q => z q.2)]; exact c3 v (by omega)
end ZPa
